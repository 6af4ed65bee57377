/** Promises 1, 2, 3 and 22: a new bench, tables, masses with the pulls they make, counts. */
public final class StartTest {
    public static void main(String[] args) {
        newBench();
        round();
        tablesGoRound();
        oneStandsStill();
        masses();
        pulls();
        counts();
        Due.end("StartTest");
    }

    private static void newBench() {
        CometBench x = new CometBench();
        Due.same("NONE", CometBench.NONE, -1);
        Due.same("new: all(0)", x.all(0), 0);
        Due.same("new: all(1)", x.all(1), 0);
        Due.same("new: all(2)", x.all(2), 0);
        Due.same("new: all(3)", x.all(3), -1);
        Due.same("new: miss", x.miss(0, 5), -1);
        Due.same("new: unsee", x.unsee(), -1);
        Due.same("new: base", x.base(0, 1), false);
        Due.same("new: keep", x.keep(), -1);
        Due.same("new: way", x.way(0, 0), -1000000);
        Due.same("new: at", x.at(0, 0, 0), -1000000);
        Due.same("new: fits", x.fits(0, 0), -1);
        Due.same("new: fitting", x.fitting(0), -1);
        Due.same("new: without", x.without(0), -1);
        Due.same("new: patch", x.patch(0), -1);
        Due.same("new: side left", x.side(0, true), -1);
        Due.same("new: side right", x.side(0, false), -1);
        Due.same("new: tells", x.tells(-300, 300), -1000);
        Due.same("new: period", x.period(0), -1);
        Due.same("new: span least", x.span(false), -1);
        Due.same("new: span greatest", x.span(true), -1);
        Due.same("new: near one", x.near(0, -300, 300), -1);
        Due.same("new: near any", x.near(-1, -300, 300), -1);
        Due.same("new: nearest", x.nearest(), -1000);
        Due.same("new: all(3) behind a keep() that was refused", x.all(3), -1);
    }

    private static void round() {
        CometBench x = new CometBench();
        int[][] wrong = {{20001, 0}, {-20001, 0}, {0, 20001}, {0, -20001},
            {2147483647, 0}, {0, -2147483648}};
        for (int[] place : wrong) {
            Due.same("round far", x.round(false, place[0], place[1]), -1);
            Due.same("round far, planet", x.round(true, place[0], place[1]), -1);
        }
        Due.same("nothing of that in a table", x.all(1) + x.all(2), 0);
        for (int i = 1; i <= 40; i++) {
            Due.same("round " + i, x.round(false, i % 2 == 0 ? 20000 : -20000, 20000), i);
        }
        Due.same("round 41", x.round(false, 0, 0), -1);
        for (int i = 1; i <= 40; i++) {
            Due.same("round planet " + i, x.round(true, 0, -20000), i);
        }
        Due.same("round planet 41", x.round(true, 0, 0), -1);
        Due.same("all(1)", x.all(1), 40);
        Due.same("all(2)", x.all(2), 40);
    }

    private static void tablesGoRound() {
        CometBench x = Scenes.oneDay(1000, 100);
        x.masses(0, 0);
        x.round(false, 7, 9);
        Due.same("three places: keep", x.keep(), 1);
        // The way is at 1000, 100 t; steps -3 .. 3 have the places 0, 1, 2, 0, 1, 2, 0.
        Due.same("near -1", x.near(0, -1, -1), 993 * 993 + 109 * 109);
        Due.same("near -2", x.near(0, -2, -2), 700 * 700);
        Due.same("near -3", x.near(0, -3, -3), 1000 * 1000 + 300 * 300);
        Due.same("near 0", x.near(0, 0, 0), 1000 * 1000);
        Due.same("near 2", x.near(0, 2, 2), 993 * 993 + 191 * 191);
        Due.same("near 3", x.near(0, 3, 3), 1000 * 1000 + 300 * 300);
    }

    private static void oneStandsStill() {
        CometBench x = Scenes.cross(1000, 500);
        x.round(false, 30, 40);
        Due.same("one place: keep", x.keep(), 4);
        Scenes.state("one place", x, 0, 0, 1030, 40, -100, 100);
        Scenes.state("one place", x, 0, 10, 30, 1040, -100, 100);
    }

    private static void masses() {
        CometBench x = new CometBench();
        Due.same("masses 0", x.masses(0, 0), true);
        Due.same("masses most", x.masses(1000000000, 1000000000), true);
        Due.same("masses sun below", x.masses(-1, 0), false);
        Due.same("masses planet below", x.masses(0, -1), false);
        Due.same("masses sun above", x.masses(1000000001, 0), false);
        Due.same("masses planet above", x.masses(0, 1000000001), false);
        Due.same("masses far", x.masses(-2147483648, 2147483647), false);
        CometBench y = Scenes.oneDay(1000, 100);
        y.masses(0, 1000000001);
        y.masses(1000000001, 0);
        y.keep();
        Scenes.state("masses that were refused change nothing", y, 0, 1, 1000, 100, -9, 100);
    }

    private static void pulls() {
        CometBench x = Scenes.oneDay(1000, 100);
        Due.same("masses at first: keep", x.keep(), 1);
        Scenes.state("masses at first", x, 0, 0, 1000, 0, 0, 100);
        // 10000000 * 1000 / (1010000 * 1004) = 9.8, and a tenth of it down: towards 0.
        Scenes.state("masses at first", x, 0, 1, 1000, 100, -9, 100);
        // 10000000 * 1000 / (1000000 * 1000) = 10 is taken back ahead of the place.
        Scenes.state("masses at first", x, 0, -1, 990, -100, 10, 100);
        Due.same("masses at first: at(0, 2, 0)", x.at(0, 2, 0), 991);

        // 10000000 * 1400 / (1987225 * 1409) is a little below 5, and one mass more would make it 5.
        CometBench just = Scenes.oneDay(1400, 165);
        just.keep();
        Scenes.state("not more than that at first", just, 0, 1, 1400, 165, 396, 165);

        x.masses(10000000, 2000000);
        x.round(true, 1500, 0);
        x.round(true, 1000, 300);
        Due.same("planet: keep", x.keep(), 1);
        // The planet is 200 down at step 1: 2000000 * 200 / (40000 * 200) = 50.
        Scenes.state("planet", x, 0, 1, 1000, 100, -9, 150);
        // It is 500 across at step 0: 2000000 * 500 / (250000 * 500) = 8.
        Scenes.state("planet", x, 0, -1, 998, -100, 2, 100);

        CometBench y = Scenes.oneDay(1000, 100);
        y.masses(10000000, 2000000);
        y.keep();
        // Without a table it is where the sun is; each pull is cut for itself: 9.8 and 1.9.
        Scenes.state("planet without a table", y, 0, 1, 1000, 100, -10, 100);

        CometBench one = Scenes.oneDay(1000, 100);
        one.round(true, 20000, 20000);
        one.round(true, 1001, 100);
        one.keep();
        Scenes.state("a planet of no mass at first", one, 0, 1, 1000, 100, -9, 100);
        one.masses(10000000, 1);
        one.keep();
        Scenes.state("the least mass from the least distance", one, 0, 1, 1000, 100, -8, 100);

        CometBench z = Scenes.oneDay(1000, 100);
        z.masses(10000000, 1000000000);
        z.round(true, 20000, 20000);
        z.round(true, 1000, 100);
        z.keep();
        Scenes.state("planet on the comet", z, 0, 1, 1000, 100, -9, 100);
    }

    private static void counts() {
        CometBench x = Scenes.oneDay(1000, 100);
        x.round(true, 1, 1);
        Due.same("all(0)", x.all(0), 2);
        Due.same("all(1)", x.all(1), 2);
        Due.same("all(2)", x.all(2), 1);
        Due.same("all(3) ahead of keep()", x.all(3), -1);
        x.keep();
        Due.same("all(3)", x.all(3), 1);
        x.sight(1, 0, -1, 0, 0);
        x.keep();
        Due.same("all(3) with none", x.all(3), 0);
        int[] others = {-1, 4, 5, -2147483648, 2147483647};
        for (int what : others) {
            Due.same("all(" + what + ")", x.all(what), -1);
        }
    }
}
