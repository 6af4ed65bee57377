/** Benches whose ways can be worked out by hand. */
final class Scenes {
    private Scenes() {
    }

    /**
     * One way from 1000, 0 at step 0 to endX, endY at step 1; the earth is at 0, 0 at the one and
     * at endX, endY - 1000 at the other, and goes on so. Masses and planet are the caller's.
     */
    static CometBench oneDay(int endX, int endY) {
        CometBench bench = new CometBench();
        bench.round(false, 0, 0);
        bench.round(false, endX, endY - 1000);
        bench.sight(0, 0, 1, 0, 0);
        bench.sight(0, 1, 0, 1, 0);
        bench.grid(1000, 1, 1);
        bench.base(0, 1);
        return bench;
    }

    /** One straight way along a direction: 1000 + speed t away from the sun at step t. */
    static CometBench line(int a, int b, int speed) {
        CometBench bench = new CometBench();
        bench.masses(0, 0);
        bench.round(false, 0, 0);
        bench.round(false, a * speed, b * speed);
        bench.sight(0, 0, a, b, 0);
        bench.sight(0, 1, a, b, 0);
        bench.grid(1000, 1, 1);
        bench.base(0, 1);
        return bench;
    }

    /** Nothing pulls; nights at step 0 across and at step 10 down, and two distances. */
    static CometBench cross(int from, int by) {
        CometBench bench = new CometBench();
        bench.masses(0, 0);
        bench.sight(0, 0, 1, 0, 0);
        bench.sight(0, 10, 0, 1, 0);
        bench.grid(from, by, 2);
        bench.base(0, 1);
        return bench;
    }

    /** An earth at 0, 0 but for some steps, told as step, x, y; its table has so many places. */
    static void earth(CometBench bench, int count, int... told) {
        for (int step = 0; step < count; step++) {
            int x = 0;
            int y = 0;
            for (int i = 0; i + 2 < told.length; i += 3) {
                if (Math.floorMod(told[i], count) == step) {
                    x = told[i + 1];
                    y = told[i + 2];
                }
            }
            bench.round(false, x, y);
        }
    }

    /**
     * One way that is at x, y with a speed of u, v at a step. Nothing pulls, until the caller
     * tells masses: what is pulled at the later night changes only the steps behind it. The earth
     * has 40 places, of which those of the two nights are taken; others are told as step, x, y.
     */
    static CometBench begun(int step, int x, int y, int u, int v, int... earth) {
        CometBench bench = new CometBench();
        bench.masses(0, 0);
        int[] told = java.util.Arrays.copyOf(earth, earth.length + 6);
        int[] nights = {step, x - 1000, y, step + 1, x + u - 1000, y + v};
        System.arraycopy(nights, 0, told, earth.length, nights.length);
        earth(bench, 40, told);
        bench.sight(0, step, 1, 0, 0);
        bench.sight(0, step + 1, 1, 0, 0);
        bench.grid(1000, 1, 1);
        bench.base(0, 1);
        return bench;
    }

    /**
     * Two straight ways: at step t the first is at (1 - t) from, t (from + by) and the second at
     * (1 - t) (from + by), t from. The third night keeps the other two away. The earth has 40
     * places, of which the one of step 2 is taken; others are told as step, x, y.
     */
    static CometBench two(int from, int by, int... earth) {
        CometBench bench = new CometBench();
        bench.masses(0, 0);
        int[] told = java.util.Arrays.copyOf(earth, earth.length + 3);
        int[] third = {2, -from - by - 1000, 2 * from - 2000};
        System.arraycopy(third, 0, told, earth.length, third.length);
        earth(bench, 40, told);
        bench.sight(0, 0, 1, 0, 0);
        bench.sight(0, 1, 0, 1, 0);
        bench.sight(0, 2, 1, 2, 0);
        bench.grid(from, by, 2);
        bench.base(0, 1);
        return bench;
    }

    /** A planet far away but for some steps, told as step, x; it is on the line y = 0 there. */
    static void planet(CometBench bench, int count, int... told) {
        for (int step = 0; step < count; step++) {
            int x = 20000;
            int y = 20000;
            for (int i = 0; i + 1 < told.length; i += 2) {
                if (Math.floorMod(told[i], count) == step) {
                    x = told[i + 1];
                    y = 0;
                }
            }
            bench.round(true, x, y);
        }
    }

    static void state(String scene, CometBench bench, int k, int step, int... due) {
        for (int what = 0; what < 4; what++) {
            Due.same(scene + ": at(" + k + ", " + step + ", " + what + ")",
                bench.at(k, step, what), due[what]);
        }
    }
}
