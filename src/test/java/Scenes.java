/** Benches whose ways can be worked out by hand. */
final class Scenes {
    private Scenes() {
    }

    /**
     * One way from 1000, 0 at step 0 to endX, endY at step 1; the earth is at 0, 0 at the one and
     * at endX, endY - 1000 at the other, and goes on so. Masses and planet are the caller's.
     */
    static CometBench oneDay(int endX, int endY) {
        CometBench bench = new CometBench();
        bench.round(false, 0, 0);
        bench.round(false, endX, endY - 1000);
        bench.sight(0, 0, 1, 0, 0);
        bench.sight(0, 1, 0, 1, 0);
        bench.grid(1000, 1, 1);
        bench.base(0, 1);
        return bench;
    }

    /** One straight way along a direction: 1000 + speed t away from the sun at step t. */
    static CometBench line(int a, int b, int speed) {
        CometBench bench = new CometBench();
        bench.masses(0, 0);
        bench.round(false, 0, 0);
        bench.round(false, a * speed, b * speed);
        bench.sight(0, 0, a, b, 0);
        bench.sight(0, 1, a, b, 0);
        bench.grid(1000, 1, 1);
        bench.base(0, 1);
        return bench;
    }

    /** Nothing pulls; nights at step 0 across and at step 10 down, and two distances. */
    static CometBench cross(int from, int by) {
        CometBench bench = new CometBench();
        bench.masses(0, 0);
        bench.sight(0, 0, 1, 0, 0);
        bench.sight(0, 10, 0, 1, 0);
        bench.grid(from, by, 2);
        bench.base(0, 1);
        return bench;
    }

    /** An earth at 0, 0 but for some steps, told as step, x, y; its table has so many places. */
    static void earth(CometBench bench, int count, int... told) {
        for (int step = 0; step < count; step++) {
            int x = 0;
            int y = 0;
            for (int i = 0; i + 2 < told.length; i += 3) {
                if (told[i] == step) {
                    x = told[i + 1];
                    y = told[i + 2];
                }
            }
            bench.round(false, x, y);
        }
    }

    /** A planet far away but for some steps, told as step, x; it is on the line y = 0 there. */
    static void planet(CometBench bench, int count, int... told) {
        for (int step = 0; step < count; step++) {
            int x = 20000;
            int y = 20000;
            for (int i = 0; i + 1 < told.length; i += 2) {
                if (told[i] == step) {
                    x = told[i + 1];
                    y = 0;
                }
            }
            bench.round(true, x, y);
        }
    }

    static void state(String scene, CometBench bench, int k, int step, int... due) {
        for (int what = 0; what < 4; what++) {
            Due.same(scene + ": at(" + k + ", " + step + ", " + what + ")",
                bench.at(k, step, what), due[what]);
        }
    }
}
