/** Promises 9 to 14: the ways that are kept, where they are, what they fit. */
public final class WaysTest {
    public static void main(String[] args) {
        keep();
        keepRefused();
        cutTowardsZero();
        directions();
        aimedThreeTimes(1, 0);
        aimedThreeTimes(0, 1);
        way();
        at();
        lostFar();
        lostNear();
        lostAtBase();
        tailsAndAnnals();
        fits();
        fittingAndWithout();
        asItWasThen();
        Due.end("WaysTest");
    }

    private static void keep() {
        CometBench x = Scenes.cross(1000, 500);
        Due.same("keep", x.keep(), 4);
        int[][] ways = {{0, 0, 1000, 0, -100, 100, 0}, {0, 1, 1000, 0, -100, 150, 0},
            {1, 0, 1500, 0, -150, 100, 0}, {1, 1, 1500, 0, -150, 150, 0}};
        for (int k = 0; k < 4; k++) {
            for (int what = 0; what < 7; what++) {
                Due.same("way(" + k + ", " + what + ")", x.way(k, what), ways[k][what]);
            }
        }
        // Of the four at step 5, 500, 500 and 750, 750 are in that direction.
        x.sight(0, 5, 1, 1, 0);
        Due.same("keep by three nights", x.keep(), 2);
        Due.same("the first one", x.way(0, 0) * 10 + x.way(0, 1), 0);
        Due.same("the second one", x.way(1, 0) * 10 + x.way(1, 1), 11);
        Due.same("no third one", x.way(2, 0), -1000000);
        x.sight(0, 5, -1, -1, 1000);
        Due.same("none is that way", x.keep(), 0);
        Due.same("none is left", x.way(0, 0), -1000000);
        x.unsee();
        x.unsee();
        x.sight(2, 5, -1, -1, 0);
        x.sight(0, 5, -1, -1, 0);
        Due.same("a night behind an annal", x.keep(), 0);
        x.unsee();
        x.unsee();
        Due.same("all again", x.keep(), 4);
        Due.same("the last one again", x.at(3, 5, 1), 750);
        CometBench y = new CometBench();
        y.masses(0, 0);
        y.sight(0, 5, 1, 1, 0);
        y.sight(0, 10, 0, 1, 0);
        y.sight(0, 0, 1, 0, 0);
        y.grid(1000, 500, 2);
        y.base(1, 2);
        Due.same("the first sight counts without being of the base", y.keep(), 2);
    }

    private static void keepRefused() {
        CometBench x = Scenes.cross(1000, 500);
        x.keep();
        x.unsee();
        x.grid(700, 1, 1);
        x.masses(1000000, 1000000);
        x.round(false, 50, 60);
        Due.same("keep without a base", x.keep(), -1);
        Due.same("all(3)", x.all(3), 4);
        Due.same("KEPT are as they were", x.way(3, 2), 1500);
        Scenes.state("KEPT are as they were", x, 0, 20, -1000, 2000, -100, 100);
        Due.same("the earth is as it was", x.near(0, 0, 0), 1000000);
    }

    private static void cutTowardsZero() {
        CometBench x = Scenes.cross(1005, 1);
        x.grid(1005, 1, 1);
        Due.same("5 aside at the later night", x.keep(), 0);
        x.miss(1, 4);
        Due.same("a miss of 4", x.keep(), 0);
        x.miss(1, 5);
        Due.same("a miss of 5", x.keep(), 1);
        Scenes.state("-100.5 is -100", x, 0, 0, 1005, 0, -100, 100);
        Scenes.state("5 aside", x, 0, 10, 5, 1000, -100, 100);
    }

    private static void directions() {
        int[][] told = {{3, 4, 600, 800}, {1, 1, 1001, 1001}, {-2, -1, -1001, -500},
            {1000, 1000, 707, 707}, {-3, 4, -600, 800}, {0, -7, 0, -1001}};
        for (int[] one : told) {
            CometBench x = new CometBench();
            x.masses(0, 0);
            x.sight(0, -7, one[0], one[1], 1000);
            x.sight(0, 9, one[0], one[1], 1000);
            x.grid(1001, 1, 1);
            x.base(0, 1);
            Due.same("direction " + one[0] + ", " + one[1], x.keep(), 1);
            Due.same("across", x.way(0, 2), one[2]);
            Due.same("down", x.way(0, 3), one[3]);
            Due.same("its step", x.way(0, 6), -7);
        }
    }

    private static void aimedThreeTimes(int a, int b) {
        CometBench x = new CometBench();
        // Nothing pulls but a planet, and that at step 1: by its mass over its distance's square.
        x.masses(0, 100000);
        x.sight(0, 0, a, b, 1000);
        x.sight(0, 2, a, b, 1000);
        x.grid(1000, 1, 1);
        x.base(0, 1);
        x.round(true, 1100 * a, 1100 * b);
        x.round(true, 1010 * a, 1010 * b);
        x.round(true, 20000 * a, 20000 * b);
        // u = 0: at 1000, pulled by 1000, at 2000 in the end: u = -500. At 500, then at 0: lost.
        Due.same("aimed into the sun: keep", x.keep(), 0);
        x.masses(0, 10000);
        Due.same("aimed again: keep", x.keep(), 1);
        // u = 0: at 1000, pulled by 100, at 1100: u = -50. At 950, pulled by 2, at 902: u = -1.
        // At 999, pulled by 82, at 1080: u = -41, and no fourth time.
        Due.same("aimed three times", x.way(0, a == 1 ? 4 : 5), -41);
        Due.same("aimed three times", x.way(0, a == 1 ? 5 : 4), 0);
        // 51 off at step 1: pulled by 3.
        Due.same("where it is then", x.at(0, 2, a == 1 ? 0 : 1), 959 + -41 + 3);
    }

    private static void way() {
        CometBench x = Scenes.cross(1000, 500);
        x.keep();
        int[][] wrong = {{-1, 0}, {4, 0}, {2147483647, 0}, {-2147483648, 0}, {0, -1}, {0, 7},
            {0, 2147483647}, {0, -2147483648}};
        for (int[] one : wrong) {
            Due.same("way(" + one[0] + ", " + one[1] + ")", x.way(one[0], one[1]), -1000000);
        }
    }

    private static void at() {
        CometBench x = Scenes.cross(1000, 500);
        x.keep();
        Scenes.state("straight", x, 1, 0, 1000, 0, -100, 150);
        Scenes.state("straight", x, 1, 10, 0, 1500, -100, 150);
        Scenes.state("straight", x, 1, 300, -29000, 45000, -100, 150);
        Scenes.state("straight", x, 2, -300, 46500, -30000, -150, 100);
        int[][] wrong = {{-1, 0, 0}, {4, 0, 0}, {0, -301, 0}, {0, 301, 0}, {0, 0, -1}, {0, 0, 4},
            {2147483647, 0, 0}, {0, 2147483647, 2}, {0, -2147483648, 3}, {0, 0, 2147483647}};
        for (int[] one : wrong) {
            Due.same("at(" + one[0] + ", " + one[1] + ", " + one[2] + ")",
                x.at(one[0], one[1], one[2]), -1000000);
        }
    }

    private static void lostFar() {
        int[][] directions = {{1, 0}, {-1, 0}, {0, 1}, {0, -1}};
        for (int[] d : directions) {
            String scene = "line " + d[0] + ", " + d[1];
            CometBench x = Scenes.line(d[0], d[1], 990);
            Due.same(scene, x.keep(), 1);
            Scenes.state(scene, x, 0, 100, d[0] * 100000, d[1] * 100000, d[0] * 990, d[1] * 990);
            for (int step : new int[] {-300, -2, -1, 101, 102, 300}) {
                Scenes.state(scene, x, 0, step, -1000000, -1000000, -1000000, -1000000);
            }
            CometBench y = Scenes.line(d[0], d[1], 404);
            y.keep();
            Scenes.state(scene, y, 0, -250, d[0] * -100000, d[1] * -100000, d[0] * 404, d[1] * 404);
            Due.same(scene + " far back", y.at(0, -251, 0), -1000000);
            CometBench z = Scenes.line(d[0], d[1], 14143);
            z.keep();
            Due.same(scene + " at 85858", z.at(0, 6, 0), d[0] * 85858);
            Due.same(scene + " at 100001", z.at(0, 7, 0), -1000000);
            CometBench back = Scenes.line(d[0], d[1], 393);
            back.keep();
            Due.same(scene + " at -99608", back.at(0, -256, 1), d[1] * -99608);
            Due.same(scene + " at -100001", back.at(0, -257, 1), -1000000);
        }
    }

    private static void lostNear() {
        CometBench x = Scenes.line(1, 0, -180);
        x.keep();
        Due.same("100 off", x.at(0, 5, 0), 100);
        Due.same("80 off", x.at(0, 6, 0), -1000000);
        Due.same("farther on that way", x.at(0, 7, 0), -1000000);
        Due.same("the other way", x.at(0, -7, 0), 1000 + 7 * 180);

        CometBench y = new CometBench();
        y.masses(0, 0);
        y.round(false, 0, 0);
        y.round(false, -108, -144);
        y.sight(0, 0, 3, 4, 0);
        y.sight(0, 1, 3, 4, 0);
        y.grid(1000, 1, 1);
        y.base(0, 1);
        Due.same("aslant", y.keep(), 1);
        Scenes.state("aslant", y, 0, 5, 60, 80, -108, -144);
        Due.same("aslant, 80 off", y.at(0, 6, 0), -1000000);
    }

    private static void lostAtBase() {
        CometBench x = Scenes.cross(99, 1);
        x.miss(0, 1000);
        x.miss(1, 1000);
        x.grid(99, 1, 1);
        Due.same("lost where it begins", x.keep(), 0);
        CometBench y = Scenes.line(1, 0, 5);
        y.grid(100, 1, 1);
        Due.same("100 off where it begins", y.keep(), 1);
        y.grid(99, 1, 1);
        Due.same("99 off where it begins", y.keep(), 0);
        CometBench z = new CometBench();
        z.masses(0, 0);
        z.sight(0, 0, 1, 0, 1000);
        z.sight(0, 10, -1, 0, 1000);
        z.grid(1000, 1, 1);
        z.base(0, 1);
        Due.same("through the sun", z.keep(), 0);
        // An even number of steps has one in the midst, where the sun is; an odd one has none.
        z.sight(0, 2, -1, 0, 1000);
        z.grid(1050, 1, 1);
        z.base(0, 2);
        Due.same("through the sun's place at step 1", z.keep(), 0);
        z.grid(20000, 1, 1);
        Due.same("far through the sun's place at step 1", z.keep(), 0);
        z.unsee();
        z.sight(0, 3, -1, 0, 1000);
        z.base(0, 2);
        z.grid(1050, 1, 1);
        Due.same("past the sun between two steps", z.keep(), 1);
    }

    private static void tailsAndAnnals() {
        // At step 1 the comet is at 1000, 100 and the earth at 1000, -900.
        CometBench x = Scenes.oneDay(1000, 100);
        x.masses(0, 0);
        x.sight(1, 1, 10, 1, 0);
        Due.same("a tail is from the sun", x.keep(), 1);
        x.unsee();
        x.sight(1, 1, 0, 1, 0);
        Due.same("a tail is not from the earth", x.keep(), 0);
        x.unsee();
        x.sight(2, 1, 0, -1, 0);
        Due.same("an annal keeps none away", x.keep(), 1);
        Due.same("but can be not fit", x.fits(0, 2), 0);
        x.unsee();
        x.sight(2, 1, 0, 1, 0);
        Due.same("an annal is from the earth", x.fits(0, 2), 1);
        x.unsee();
        x.sight(2, 1, 10, 1, 0);
        Due.same("an annal is not from the sun", x.fits(0, 2), 0);
    }

    private static void fits() {
        CometBench x = Scenes.cross(1000, 500);
        x.sight(2, 5, 1, 0, 1000);
        x.sight(2, 5, 1, -1, 1000);
        x.sight(2, 5, -1, 0, 1000);
        x.sight(2, 5, 1, 1, 0);
        Due.same("fits ahead of keep()", x.fits(0, 2), -1);
        Due.same("fitting ahead of keep()", x.fitting(2), 0);
        x.keep();
        Due.same("just as much aside as along", x.fits(0, 2), 1);
        x.miss(2, 999);
        Due.same("a little more", x.fits(0, 2), 0);
        Due.same("nothing along", x.fits(0, 3), 0);
        Due.same("behind", x.fits(0, 4), 0);
        Due.same("straight", x.fits(0, 5), 1);
        Due.same("nearly straight", x.fits(1, 5), 0);
        Due.same("the base", x.fits(3, 0) + x.fits(3, 1), 2);
        int[][] wrong = {{-1, 0}, {4, 0}, {0, -1}, {0, 6}, {2147483647, 0}, {0, 2147483647},
            {-2147483648, 0}, {0, -2147483648}};
        for (int[] one : wrong) {
            Due.same("fits(" + one[0] + ", " + one[1] + ")", x.fits(one[0], one[1]), -1);
        }
        CometBench z = Scenes.cross(1000, 500);
        Scenes.earth(z, 31, 5, 500, 500, 6, 399, 600);
        z.sight(2, 5, 1, 0, 1000);
        z.sight(2, 6, 1, 0, 0);
        z.keep();
        Due.same("nothing along, nothing aside", z.fits(0, 2), 0);
        Due.same("1 along, nothing aside", z.fits(0, 3), 1);
        CometBench y = Scenes.line(1, 0, 990);
        y.sight(2, 100, 1, 0, 1000);
        y.sight(2, 101, 1, 0, 1000);
        y.keep();
        Due.same("fits where it is not lost", y.fits(0, 2), 1);
        Due.same("fits where it is lost", y.fits(0, 3), 0);
    }

    private static void fittingAndWithout() {
        CometBench x = Scenes.cross(1000, 500);
        x.sight(0, 5, 1, 1, 0);
        x.sight(2, 5, 1, 0, 700);
        Due.same("without, ahead of keep()", x.without(2), 4);
        Due.same("nothing is kept by that", x.all(3), -1);
        Due.same("keep", x.keep(), 2);
        Due.same("without the third night", x.without(2), 4);
        Due.same("KEPT are not those", x.way(1, 0), 1);
        Due.same("without the annal", x.without(3), 2);
        Due.same("KEPT are as they were", x.all(3), 2);
        Due.same("KEPT are as they were", x.way(1, 2), 1500);
        int[] wrong = {-1, 4, 0, 1, 2147483647, -2147483648};
        for (int one : wrong) {
            Due.same("without(" + one + ")", x.without(one), -1);
        }
        x.unsee();
        x.unsee();
        x.keep();
        x.sight(2, 5, 1, 0, 700);
        x.sight(2, 5, 1, 1, 0);
        Due.same("fitting: only 750, 500", x.fitting(2), 1);
        Due.same("fitting: the even ones", x.fitting(3), 2);
        Due.same("fitting the base", x.fitting(0), 4);
        Due.same("fitting(-1)", x.fitting(-1), -1);
        Due.same("fitting(4)", x.fitting(4), -1);
        Due.same("fitting the least", x.fitting(-2147483648), -1);
        // By all as it is now: the way through the sun is lost, three others are found.
        x.grid(60, 940, 2);
        Due.same("without by the grid as it is now", x.without(2), 1);
        x.grid(1000, 500, 2);
        x.masses(1000000000, 0);
        Due.same("without by the masses as they are now", x.without(2) < 4, true);
        x.masses(0, 0);
        x.round(false, -1000, 20);
        // The less distance ends in the sun now.
        Due.same("without by the earth as it is now", x.without(2), 2);
    }

    private static void asItWasThen() {
        CometBench x = Scenes.cross(1000, 500);
        x.sight(2, 5, 1, 1, 0);
        x.keep();
        x.round(false, 5000, 5000);
        x.round(true, 400, 400);
        x.masses(1000000000, 1000000000);
        x.grid(1, 1, 1);
        Scenes.state("as it was", x, 0, 5, 500, 500, -100, 100);
        Scenes.state("as it was", x, 3, -5, 2250, -750, -150, 150);
        Due.same("the earth as it was", x.fits(0, 2), 1);
        Due.same("the earth as it was", x.fitting(2), 2);
        Due.same("the earth as it was", x.near(0, 5, 5), 500000);
        Due.same("the earth as it was", x.patch(5), 416);
        Due.same("the tables as they are", x.all(1) + x.all(2), 2);
    }
}
