/** Terms II: the edges of sights, of what fits them, of the grid, the base and the ways. */
public final class EdgesOfSightsTest {
    private static final int NIGHT = 0;
    private static final int TAIL = 1;
    private static final int ANNAL = 2;

    public static void main(String[] args) {
        kinds();
        steps();
        directions();
        misses();
        twelveAtMost();
        aboveNothing();
        missTimesAlong();
        tailFromTheSun();
        lostFitsNothing();
        stepsBelowZero();
        gridAtTheEdge();
        gridAtFirst();
        baseOfTwoNights();
        baseOfUnlikeSteps();
        placesAreCut();
        speedsAreCut();
        aimedThreeTimes();
        lostIsNotAimed();
        bothOfTheBaseCount();
        annalsDoNotCount();
        inTheirOrder();
        Due.end("EdgesOfSightsTest");
    }

    private static void kinds() {
        int[] cannot = {-1, 3, -2147483648, 2147483647};
        CometBench x = new CometBench();
        for (int kind = 0; kind <= 2; kind++) {
            Due.same("kind " + kind, x.sight(kind, 0, 1, 0, 0), kind);
        }
        for (int kind : cannot) {
            Due.same("kind " + kind, x.sight(kind, 0, 1, 0, 0), -1);
        }
        Due.same("three kinds", x.all(0), 3);
    }

    private static void steps() {
        for (int kind = 0; kind <= 2; kind++) {
            CometBench x = new CometBench();
            Due.same("step -300", x.sight(kind, -300, 1, 0, 0), 0);
            Due.same("step 300", x.sight(kind, 300, 1, 0, 0), 1);
            for (int step : new int[] {-301, 301, -2147483648, 2147483647}) {
                Due.same("step " + step, x.sight(kind, step, 1, 0, 0), -1);
            }
            Due.same("two steps", x.all(0), 2);
        }
        // Straight away from the sun: at both last steps it is seen as it is.
        CometBench y = Scenes.begun(0, 10000, 0, 20, 0);
        y.sight(NIGHT, 300, 1, 0, 0);
        y.sight(NIGHT, -300, 1, 0, 0);
        Due.same("nights at the last steps: keep", y.keep(), 1);
        Due.same("fits at 300", y.fits(0, 2), 1);
        Due.same("fits at -300", y.fits(0, 3), 1);
    }

    private static void directions() {
        CometBench x = new CometBench();
        int[][] can = {{1000, 0}, {-1000, 0}, {0, 1000}, {0, -1000}, {1000, -1000}, {-1000, 1000},
            {1, 0}, {-1, 0}, {0, 1}, {0, -1}};
        int[][] cannot = {{0, 0}, {1001, 0}, {-1001, 0}, {0, 1001}, {0, -1001}, {1001, 1},
            {1, -1001}, {2147483647, 1}, {1, -2147483648}, {-2147483648, -2147483648}};
        for (int i = 0; i < can.length; i++) {
            Due.same("direction " + can[i][0] + ", " + can[i][1],
                x.sight(NIGHT, 0, can[i][0], can[i][1], 0), i);
        }
        for (int[] d : cannot) {
            Due.same("direction " + d[0] + ", " + d[1], x.sight(NIGHT, 0, d[0], d[1], 0), -1);
        }
        Due.same("those that can be", x.all(0), can.length);
    }

    private static void misses() {
        CometBench x = new CometBench();
        Due.same("a miss of 0", x.sight(NIGHT, 0, 1, 0, 0), 0);
        Due.same("a miss of 1000", x.sight(NIGHT, 0, 1, 0, 1000), 1);
        for (int miss : new int[] {-1, 1001, -2147483648, 2147483647}) {
            Due.same("a miss of " + miss, x.sight(NIGHT, 0, 1, 0, miss), -1);
            Due.same("another miss of " + miss, x.miss(0, miss), -1);
        }
        Due.same("two sights", x.all(0), 2);
        Due.same("what it was", x.miss(0, 1000), 0);
        Due.same("what it was", x.miss(0, 0), 1000);
        Due.same("what it was", x.miss(1, 0), 1000);
    }

    private static void twelveAtMost() {
        for (int kind = 0; kind <= 2; kind++) {
            CometBench x = new CometBench();
            for (int i = 0; i < 12; i++) {
                Due.same("sight " + i, x.sight(kind, i, 1, 0, i), i);
            }
            Due.same("a thirteenth", x.sight(kind, 12, 1, 0, 12), -1);
            Due.same("twelve", x.all(0), 12);
            Due.same("the twelfth is there", x.miss(11, 5), 11);
            Due.same("the thirteenth is not", x.miss(12, 5), -1);
            Due.same("the last goes", x.unsee(), 11);
            Due.same("a twelfth again", x.sight(kind, 12, 1, 0, 77), 11);
            Due.same("it is the new one", x.miss(11, 5), 77);
        }
        // The twelfth counts as much as the others do.
        CometBench y = Scenes.begun(0, 5000, 0, 0, 0);
        for (int i = 2; i < 11; i++) {
            y.sight(NIGHT, 7, 1, 0, 0);
        }
        Due.same("eleven fit: keep", y.keep(), 1);
        Due.same("the twelfth", y.sight(NIGHT, 7, -1, 0, 0), 11);
        Due.same("the twelfth does not: keep", y.keep(), 0);
        Due.same("without the twelfth", y.without(11), 1);
        Due.same("without another one", y.without(2), 0);
    }

    /** A comet at rest at 5000, 0; at step 7 it is seen p, q off the earth. */
    private static CometBench seen(int p, int q) {
        return Scenes.begun(0, 5000, 0, 0, 0, 7, 5000 - p, -q);
    }

    private static void fit(int p, int q, int a, int b, int miss, int due) {
        String scene = p + ", " + q + " seen along " + a + ", " + b + " with a miss of " + miss;
        for (int kind : new int[] {NIGHT, ANNAL}) {
            CometBench x = seen(p, q);
            x.sight(kind, 7, a, b, miss);
            Due.same(scene + ": keep", x.keep(), kind == ANNAL ? 1 : due);
            x.unsee();
            Due.same(scene + ": keep without it", x.keep(), 1);
            x.sight(kind, 7, a, b, miss);
            Due.same(scene + ": fits", x.fits(0, 2), due);
            Due.same(scene + ": fitting", x.fitting(2), due);
        }
    }

    private static void aboveNothing() {
        int[] misses = {0, 1000};
        for (int miss : misses) {
            fit(1, 0, 1, 0, miss, 1);
            fit(0, 0, 1, 0, miss, 0);
            fit(-1, 0, 1, 0, miss, 0);
            fit(0, 1, 0, 1, miss, 1);
            fit(0, -1, 0, 1, miss, 0);
            // Right across: nothing along.
            fit(0, 1, 1, 0, miss, 0);
            fit(0, -1, 1, 0, miss, 0);
            fit(1000, 1, -1, 1000, miss, 0);
        }
        // 1 along and 1 aside; and the greatest direction from the earth's greatest distance.
        fit(1, 1, 1, 0, 1000, 1);
        fit(24000, 0, 1000, 0, 0, 1);
        fit(24000, 20000, 1000, -1000, 1000, 0);
        fit(24000, 20000, 1000, 833, 1, 1);
    }

    private static void missTimesAlong() {
        for (int side = -1; side <= 1; side += 2) {
            fit(1000, 0, 1, 0, 0, 1);
            fit(10000, side, 1, 0, 0, 0);
            // 1 aside of 1000 is a miss of 1, of 999 it is more.
            fit(1000, side, 1, 0, 1, 1);
            fit(999, side, 1, 0, 1, 0);
            fit(1001, side, 1, 0, 1, 1);
            fit(500, 300 * side, 1, 0, 600, 1);
            fit(500, 300 * side, 1, 0, 599, 0);
            fit(499, 300 * side, 1, 0, 600, 0);
            fit(700, 700 * side, 1, 0, 1000, 1);
            fit(700, 701 * side, 1, 0, 1000, 0);
            fit(700, 700 * side, 1, 0, 999, 0);
            // Along a slant: 7, 1 is 8 along 1, 1 and 6 aside.
            fit(4 + 3 * side, 4 - 3 * side, 1, 1, 750, 1);
            fit(4 + 3 * side, 4 - 3 * side, 1, 1, 749, 0);
        }
    }

    private static void tailFromTheSun() {
        // At 1000, 1 from the sun; the earth is elsewhere and does not matter.
        CometBench x = Scenes.begun(0, 1000, 1, 0, 0, 7, 1000, 500);
        Due.same("a tail", x.sight(TAIL, 7, 1, 0, 1), 2);
        Due.same("a tail: keep", x.keep(), 1);
        x.miss(2, 0);
        Due.same("a tail missed: keep", x.keep(), 0);
        x.unsee();
        x.keep();
        x.sight(TAIL, 7, -1, 0, 1000);
        Due.same("a tail towards the sun", x.fits(0, 2), 0);
        x.unsee();
        x.sight(TAIL, 7, 0, -1, 1000);
        Due.same("a tail as if from the earth", x.fits(0, 2), 0);
        x.unsee();
        x.sight(NIGHT, 7, 0, -1, 1000);
        Due.same("a night from the earth", x.fits(0, 2), 1);
        x.unsee();
        x.sight(TAIL, 7, -1, 1000, 1000);
        Due.same("a tail right across", x.fits(0, 2), 0);
        x.unsee();
        x.sight(TAIL, 7, 1, 1000, 1000);
        Due.same("a tail with more aside than along", x.fits(0, 2), 0);
    }

    private static void lostFitsNothing() {
        for (int kind = 0; kind <= 2; kind++) {
            // 1000 + 990 t: there at 100, lost at 101; back it is lost at -1, where it is at 10.
            CometBench x = Scenes.begun(0, 1000, 0, 990, 0, -1, -500, 0);
            x.sight(kind, 100, 1, 0, 1000);
            Due.same("a sight where it is: keep", x.keep(), 1);
            x.unsee();
            x.sight(kind, 101, 1, 0, 1000);
            x.sight(kind, -1, 1, 0, 1000);
            Due.same("a sight where it is lost: keep", x.keep(), kind == ANNAL ? 1 : 0);
            x.unsee();
            Due.same("a sight where it is lost: without", x.without(2), 1);
            x.unsee();
            Due.same("keep", x.keep(), 1);
            x.sight(kind, 101, 1, 0, 1000);
            x.sight(kind, -1, 1, 0, 1000);
            Due.same("lost far out", x.fits(0, 2), 0);
            Due.same("lost near the sun", x.fits(0, 3), 0);
            Due.same("lost: fitting", x.fitting(2) + x.fitting(3), 0);
        }
    }

    private static void stepsBelowZero() {
        // A table of 7: step -1 has the place 6, -7 the place 0 and -300 the place 1.
        CometBench x = new CometBench();
        x.masses(0, 0);
        int[][] places = {{0, 0}, {300, -20}, {1, 1}, {2, 2}, {3, 3}, {0, 500}, {700, -40}};
        for (int[] place : places) {
            x.round(false, place[0], place[1]);
        }
        x.sight(NIGHT, -1, 1, 0, 0);
        x.sight(NIGHT, -2, 0, 1, 0);
        x.grid(1000, 1, 1);
        x.base(0, 1);
        Due.same("nights below 0: keep", x.keep(), 1);
        Due.same("the earlier step", x.way(0, 6), -2);
        Scenes.state("at the place 5", x, 0, -2, 0, 1500, 1700, -1540);
        Scenes.state("at the place 6", x, 0, -1, 1700, -40, 1700, -1540);
        CometBench y = Scenes.line(1, 0, 0);
        y.round(false, 300, 5);
        y.sight(NIGHT, -7, 140, -1, 0);
        Due.same("a third night at the place 2 of 3: keep", y.keep(), 1);
        Due.same("fits", y.fits(0, 2), 1);
        y.unsee();
        y.sight(NIGHT, -8, 140, -1, 0);
        Due.same("a third night at the place 1 of 3: keep", y.keep(), 0);
        y.unsee();
        y.keep();
        y.sight(ANNAL, -300, 1, 0, 0);
        y.sight(ANNAL, -298, 140, -1, 0);
        y.sight(ANNAL, -297, 140, -1, 0);
        Due.same("an annal at the place 0 of 3", y.fits(0, 2), 1);
        Due.same("an annal at the place 2 of 3", y.fits(0, 3), 1);
        Due.same("an annal at the place 0 of 3", y.fits(0, 4), 0);
    }

    private static CometBench afar() {
        CometBench x = new CometBench();
        x.masses(0, 0);
        x.round(false, -5000, 5000);
        x.sight(NIGHT, 0, 1, 0, 0);
        x.sight(NIGHT, 1, 1, 0, 0);
        x.base(0, 1);
        return x;
    }

    private static void gridAtTheEdge() {
        int[][] cannot = {{0, 1, 1}, {-1, 1, 1}, {20001, 1, 1}, {1, 0, 1}, {1, -1, 1}, {1, 2001, 1},
            {1, 1, 0}, {1, 1, -1}, {1, 1, 11}, {2147483647, 1, 1}, {1, 2147483647, 1},
            {1, 1, 2147483647}, {-2147483648, 1, 1}, {1, -2147483648, 1}, {1, 1, -2147483648}};
        int[][] can = {{1, 1, 1}, {20000, 1, 1}, {1, 2000, 1}, {1, 1, 10}, {1, 2000, 10},
            {20000, 2000, 10}};
        for (int[] g : can) {
            CometBench x = afar();
            Due.same("grid " + java.util.Arrays.toString(g), x.grid(g[0], g[1], g[2]), true);
            for (int[] wrong : cannot) {
                Due.same("grid " + java.util.Arrays.toString(wrong),
                    x.grid(wrong[0], wrong[1], wrong[2]), false);
            }
            Due.same("each two distances: keep", x.keep(), g[2] * g[2]);
            int last = g[2] * g[2] - 1;
            Due.same("the least", x.way(0, 2), -5000 + g[0]);
            Due.same("the greatest", x.way(last, 2), -5000 + g[0] + g[1] * (g[2] - 1));
            Due.same("its k", x.way(last, 0), g[2] - 1);
            Due.same("the other k", x.way(last, 1), g[2] - 1);
            Due.same("no more", x.way(last + 1, 0), -1000000);
        }
    }

    private static void gridAtFirst() {
        CometBench x = afar();
        Due.same("the grid at first: keep", x.keep(), 36);
        for (int k = 0; k < 6; k++) {
            Due.same("distance " + k, x.way(6 * k, 2), -5000 + 500 + 500 * k);
            Due.same("distance " + k + " at the later one", x.at(k, 1, 0), -5000 + 500 + 500 * k);
        }
    }

    private static void baseOfTwoNights() {
        CometBench x = new CometBench();
        for (int kind = 0; kind <= 2; kind++) {
            x.sight(kind, 10 * kind, 1, 0, 0);
            x.sight(kind, 10 * kind + 1, 1, 0, 0);
        }
        for (int a = -1; a <= 6; a++) {
            for (int b = -1; b <= 6; b++) {
                boolean can = a == 0 && b == 1 || a == 1 && b == 0;
                Due.same("base(" + a + ", " + b + ")", x.base(a, b), can);
            }
        }
        int[] far = {-2147483648, 2147483647, 12, 11};
        for (int one : far) {
            Due.same("base(0, " + one + ")", x.base(0, one), false);
            Due.same("base(" + one + ", 0)", x.base(one, 0), false);
        }
    }

    private static void baseOfUnlikeSteps() {
        CometBench x = new CometBench();
        x.masses(0, 0);
        x.sight(NIGHT, -300, 1, 0, 1000);
        x.sight(NIGHT, 300, 1, 0, 1000);
        x.sight(NIGHT, 300, 1, 0, 1000);
        x.sight(NIGHT, 299, 1, 0, 1000);
        x.grid(1000, 1, 1);
        Due.same("the same steps", x.base(1, 2), false);
        Due.same("the same sight", x.base(1, 1), false);
        Due.same("no base by that: keep", x.keep(), -1);
        Due.same("one apart, the earlier one last", x.base(2, 3), true);
        Due.same("one apart: keep", x.keep(), 1);
        Due.same("one apart: the earlier step", x.way(0, 6), 299);
        Due.same("as far apart as can be", x.base(1, 0), true);
        Due.same("far apart: keep", x.keep(), 1);
        Due.same("far apart: the earlier step", x.way(0, 6), -300);
        CometBench y = new CometBench();
        y.masses(0, 0);
        y.sight(NIGHT, 300, 0, 1, 1000);
        y.sight(NIGHT, -300, 1, 0, 1000);
        y.grid(6599, 1, 1);
        y.base(0, 1);
        Due.same("over 600 steps: keep", y.keep(), 1);
        // 6599 over 600 is 10.998; three times no whole step is lacking then.
        Scenes.state("over 600 steps", y, 0, -300, 6599, 0, -10, 10);
        Scenes.state("over 600 steps", y, 0, 300, 599, 6000, -10, 10);
    }

    /** The place that a night has for a distance, seen by the way that begins there. */
    private static void place(int a, int b, int distance, int x, int y) {
        CometBench bench = new CometBench();
        bench.masses(0, 0);
        bench.round(false, 7000, -3000);
        bench.sight(NIGHT, 0, a, b, 1000);
        bench.sight(NIGHT, 1, a, b, 1000);
        bench.grid(distance, 1, 1);
        bench.base(0, 1);
        String scene = "along " + a + ", " + b + " by " + distance;
        Due.same(scene + ": keep", bench.keep(), 1);
        Due.same(scene + ": across", bench.way(0, 2), 7000 + x);
        Due.same(scene + ": down", bench.way(0, 3), -3000 + y);
        Scenes.state(scene, bench, 0, 1, 7000 + x, -3000 + y, 0, 0);
    }

    private static void placesAreCut() {
        place(1, 0, 1, 1, 0);
        place(-1, 0, 1, -1, 0);
        place(1000, 0, 777, 777, 0);
        // The root of 1 and 1 is 1, of 2 and 1 it is 2, of 2 and 2 it is 2, of 3 and 4 it is 5.
        place(1, 1, 100, 100, 100);
        place(2, 1, 101, 101, 50);
        place(-2, -1, 101, -101, -50);
        place(2, -2, 101, 101, -101);
        place(3, 4, 999, 599, 799);
        place(-3, 4, 999, -599, 799);
        place(-4, -3, 999, -799, -599);
        place(1000, -1000, 20000, 14144, -14144);
        place(1000, 999, 20000, 14154, 14140);
        place(-1000, 1, 999, -999, 0);
        place(1, -1000, 1001, 1, -1001);
    }

    private static void speedsAreCut() {
        int[][] ends = {{29, 2}, {30, 3}, {31, 3}, {-29, -2}, {-30, -3}, {-31, -3}, {9, 0}, {-9, 0}};
        for (int[] end : ends) {
            CometBench x = new CometBench();
            x.masses(0, 0);
            Scenes.earth(x, 40, 0, 4000, 0, 10, 4000 + end[0], -end[0]);
            x.sight(NIGHT, 0, 1, 0, 1000);
            x.sight(NIGHT, 10, 1, 0, 1000);
            x.grid(1000, 1, 1);
            x.base(0, 1);
            String scene = end[0] + " over 10 steps";
            Due.same(scene + ": keep", x.keep(), 1);
            Due.same(scene + ": across", x.way(0, 4), end[1]);
            Due.same(scene + ": down", x.way(0, 5), -end[1]);
            // What lacks then is less than 10, and that over 10 steps is nothing.
            Due.same(scene + ": where it ends", x.at(0, 10, 0), 5000 + 10 * end[1]);
        }
    }

    private static void aimedThreeTimes() {
        for (int sign = -1; sign <= 1; sign += 2) {
            CometBench x = new CometBench();
            x.masses(0, 10000);
            x.sight(NIGHT, 0, sign, 0, 1000);
            x.sight(NIGHT, 2, sign, 0, 1000);
            x.grid(1000, 1, 1);
            x.base(0, 1);
            x.round(true, 20000, 20000);
            x.round(true, 1010 * sign, 0);
            x.round(true, 20000, -20000);
            Due.same("three times: keep", x.keep(), 1);
            // Speeds of 0, -50, -51 and -92 + 51: what lacks is -100, -2 and 80 (see WaysTest).
            Due.same("three times: the speed", x.way(0, 4), -41 * sign);
        }
    }

    /** From 1000, 0 at step 0 to -1000, y at step 4; the earth is at 0, y at the later one. */
    private static CometBench pastTheSun(int y) {
        CometBench x = new CometBench();
        x.masses(0, 0);
        Scenes.earth(x, 40, 4, 0, y);
        x.sight(NIGHT, 0, 1, 0, 1000);
        x.sight(NIGHT, 4, -1, 0, 1000);
        x.grid(1000, 1, 1);
        x.base(0, 1);
        return x;
    }

    private static void lostIsNotAimed() {
        int[][] ends = {{200, 1}, {-200, 1}, {199, 0}, {-199, 0}, {0, 0}};
        for (int[] end : ends) {
            Due.same("past the sun to " + end[0] + ": keep", pastTheSun(end[0]).keep(), end[1]);
        }
        // At step 3 the planet throws it by 400 down: were what lacks then added all the same, it
        // would go round the sun by 200 and come to a place that the later night takes.
        CometBench x = pastTheSun(0);
        x.masses(0, 40000);
        for (int step = 0; step < 40; step++) {
            x.round(true, step == 3 ? -500 : 20000, step == 3 ? 10 : 20000);
        }
        Due.same("lost on its way, and thrown behind that: keep", x.keep(), 0);
    }

    private static void bothOfTheBaseCount() {
        // Along 2, 1 a distance of 1001 is cut to 1001, 500: 1 aside of 2502.
        int[][] scenes = {{0, 1000, 0}, {1, 1000, 1}, {1000, 0, 0}, {1000, 1, 1}, {1, 1, 1}};
        for (int[] s : scenes) {
            CometBench x = new CometBench();
            x.masses(0, 0);
            x.sight(NIGHT, 0, 2, 1, s[0]);
            x.sight(NIGHT, 1, 2, 1, s[1]);
            x.grid(1001, 1, 1);
            x.base(0, 1);
            Due.same("misses of " + s[0] + " and " + s[1] + ": keep", x.keep(), s[2]);
        }
    }

    private static void annalsDoNotCount() {
        for (int kind = 0; kind <= 2; kind++) {
            CometBench x = Scenes.begun(0, 5000, 0, 0, 0);
            x.sight(kind, 9, -1, 0, 0);
            Due.same("kind " + kind + " that does not fit: keep", x.keep(), kind == ANNAL ? 1 : 0);
            Due.same("kind " + kind + ": without it", x.without(2), 1);
        }
    }

    private static void inTheirOrder() {
        CometBench x = afar();
        x.grid(100, 50, 10);
        Due.same("all: keep", x.keep(), 100);
        for (int k = 0; k < 100; k++) {
            Due.same("earlier k of " + k, x.way(k, 0), k / 10);
            Due.same("later k of " + k, x.way(k, 1), k % 10);
        }
        // At step 2 a way is at twice its later distance less its earlier one.
        x.sight(NIGHT, 2, -1, 0, 0);
        Due.same("those behind the earth: keep", x.keep(), behindTheEarth());
        int number = 0;
        for (int i = 0; i < 10; i++) {
            for (int j = 0; j < 10; j++) {
                if (2 * (100 + 50 * j) - (100 + 50 * i) < 0) {
                    Due.same("numbered from 0 on", x.way(number, 0) * 10 + x.way(number, 1), 10 * i + j);
                    number++;
                }
            }
        }
    }

    /** How many two distances are behind the earth at step 2. */
    private static int behindTheEarth() {
        int count = 0;
        for (int i = 0; i < 10; i++) {
            for (int j = 0; j < 10; j++) {
                count += 2 * (100 + 50 * j) - (100 + 50 * i) < 0 ? 1 : 0;
            }
        }
        return count;
    }
}
