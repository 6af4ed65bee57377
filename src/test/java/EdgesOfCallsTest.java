/** Promises 1 to 14 and 22: calls at the edges of what there is, and what they change. */
public final class EdgesOfCallsTest {
    private static final int NO_VALUE = -1000000;
    private static final int[] FAR = {-2147483648, -1000000, -2, 100, 1000000, 2147483647};

    public static void main(String[] args) {
        benchesAreApart();
        roundTellsHowMany();
        missOfNone();
        missFromNowOn();
        unseeTheBase();
        unseeNotTheBase();
        unseeTheLastOfAll();
        baseStaysIfRefused();
        keepWithoutABase();
        keepTwice();
        wayOfNone();
        wayForOthers();
        atOfNone();
        atForOthers();
        fitsOfNone();
        fitsAsItIsNow();
        fittingOfNone();
        withoutABase();
        withoutOneOfTheBase();
        withoutAsItIsNow();
        withoutByTheEarthAsItIsNow();
        allOfAll();
        Due.end("EdgesOfCallsTest");
    }

    private static void benchesAreApart() {
        CometBench x = new CometBench();
        CometBench y = Scenes.two(1000, 1);
        y.round(true, 5, 5);
        y.keep();
        y.near(0, 0, 0);
        for (int what = 0; what <= 2; what++) {
            Due.same("a new object has none: all(" + what + ")", x.all(what), 0);
        }
        Due.same("nothing kept", x.all(3), -1);
        Due.same("no near pass", x.nearest(), -1000);
        CometBench z = new CometBench();
        Due.same("nor has a later one", z.all(0) + z.all(1) + z.all(2), 0);
        Due.same("nothing kept", z.keep(), -1);
        Due.same("the other one has", y.all(3), 2);
    }

    private static void roundTellsHowMany() {
        CometBench x = new CometBench();
        for (int i = 1; i <= 40; i++) {
            Due.same("the earth's " + i, x.round(false, 0, 0), i);
            Due.same("the planet's so far", x.all(2), i - 1);
            Due.same("the planet's " + i, x.round(true, 0, 0), i);
            Due.same("the earth's so far", x.all(1), i);
        }
        Due.same("the earth's 41", x.round(false, 0, 0), -1);
        Due.same("the planet's 41", x.round(true, 0, 0), -1);
        Due.same("the earth's 41, too far", x.round(false, 20001, 0), -1);
        Due.same("still 40", x.all(1), 40);
        Due.same("still 40", x.all(2), 40);
    }

    private static void missOfNone() {
        CometBench x = new CometBench();
        Due.same("without any", x.miss(0, 5), -1);
        for (int i = 0; i < 12; i++) {
            Due.same("the next one", x.miss(i, 5), -1);
            x.sight(0, i, 1, 0, 100 + i);
            Due.same("the last one", x.miss(i, 5), 100 + i);
        }
        Due.same("behind the twelfth", x.miss(12, 5), -1);
        Due.same("ahead of the first", x.miss(-1, 5), -1);
        for (int sight : FAR) {
            Due.same("miss(" + sight + ", 5)", x.miss(sight, 5), -1);
        }
        Due.same("the first", x.miss(0, 0), 5);
        Due.same("one that has gone", x.unsee(), 11);
        Due.same("one that has gone", x.miss(11, 5), -1);
        Due.same("none such and none that can be", x.miss(12, 1001), -1);
    }

    private static void missFromNowOn() {
        // At step 7 it is 1000 along and 300 aside.
        CometBench x = Scenes.begun(0, 5000, 0, 0, 0, 7, 4000, -300);
        x.sight(0, 7, 1, 0, 299);
        Due.same("299: keep", x.keep(), 0);
        Due.same("300", x.miss(2, 300), 299);
        Due.same("300, nothing kept anew: all(3)", x.all(3), 0);
        Due.same("300: keep", x.keep(), 1);
        Due.same("299 again", x.miss(2, 299), 300);
        Due.same("299: fits", x.fits(0, 2), 0);
        Due.same("299: fitting", x.fitting(2), 0);
        Due.same("299: still kept", x.all(3), 1);
        Due.same("a refused one", x.miss(2, 1001), -1);
        Due.same("what it was", x.miss(2, 299), 299);
    }

    private static void unseeTheBase() {
        for (int turn = 0; turn < 2; turn++) {
            // The last sight is the later one of the base at first, then the earlier one.
            CometBench x = new CometBench();
            x.masses(0, 0);
            x.sight(0, turn == 0 ? 0 : 10, 1, 0, 1000);
            x.sight(0, turn == 0 ? 10 : 0, 1, 0, 1000);
            x.grid(1000, 1, 1);
            x.base(0, 1);
            Due.same("with a base: keep", x.keep(), 1);
            Due.same("one is left", x.unsee(), 1);
            Due.same("the base is gone: keep", x.keep(), -1);
            Due.same("what was kept stays", x.all(3), 1);
            Due.same("what was kept stays", x.way(0, 2), 1000);
            Due.same("the same sight again", x.sight(0, turn == 0 ? 10 : 0, 1, 0, 1000), 1);
            Due.same("the base does not come back: keep", x.keep(), -1);
            Due.same("nor does it: without", x.without(0), -1);
            Due.same("a base again", x.base(0, 1), true);
            Due.same("with a base again: keep", x.keep(), 1);
        }
    }

    private static void unseeNotTheBase() {
        CometBench x = Scenes.begun(0, 5000, 0, 0, 0);
        for (int i = 2; i < 12; i++) {
            x.sight(0, 7, -1, 0, 0);
        }
        for (int left = 11; left >= 2; left--) {
            Due.same("those that do not fit: keep", x.keep(), 0);
            Due.same("so many are left", x.unsee(), left);
        }
        Due.same("the base is there: keep", x.keep(), 1);
    }

    private static void unseeTheLastOfAll() {
        CometBench x = new CometBench();
        Due.same("without any", x.unsee(), -1);
        x.sight(2, 0, 1, 0, 0);
        Due.same("the only one", x.unsee(), 0);
        Due.same("without any again", x.unsee(), -1);
        Due.same("none", x.all(0), 0);
        Due.same("numbered from 0 on again", x.sight(0, 0, 1, 0, 0), 0);
    }

    private static void baseStaysIfRefused() {
        CometBench x = Scenes.begun(0, 5000, 0, 100, 0);
        x.sight(1, 3, 1, 0, 1000);
        x.sight(2, 4, 1, 0, 1000);
        x.sight(0, 0, 1, 0, 1000);
        int[][] cannot = {{0, 0}, {0, 4}, {0, 2}, {0, 3}, {2, 3}, {1, 5}, {5, 1}, {1, -1}, {-1, 1},
            {-1, -1}};
        for (int[] one : cannot) {
            Due.same("base(" + one[0] + ", " + one[1] + ")", x.base(one[0], one[1]), false);
            Due.same("the base of before: keep", x.keep(), 1);
            Due.same("the base of before: its speed", x.way(0, 4), 100);
            Due.same("the base of before: without", x.without(0), -1);
        }
    }

    private static void keepWithoutABase() {
        CometBench x = new CometBench();
        Due.same("without sights", x.keep(), -1);
        x.sight(0, 0, 1, 0, 1000);
        x.sight(0, 10, 1, 0, 1000);
        Due.same("without a base told", x.keep(), -1);
        x.base(0, 0);
        Due.same("with one that was refused", x.keep(), -1);
        Due.same("nothing is kept by that", x.all(3), -1);
        Due.same("nothing is kept by that", x.way(0, 0), NO_VALUE);
        x.base(0, 1);
        Due.same("nothing is kept by a base alone", x.all(3), -1);
        Due.same("with one", x.keep() > 0, true);
    }

    private static void keepTwice() {
        CometBench x = Scenes.two(1000, 1);
        Due.same("once", x.keep(), 2);
        int before = x.at(1, 50, 0);
        Due.same("twice", x.keep(), 2);
        Due.same("the same", x.at(1, 50, 0), before);
        x.grid(2000, 1, 2);
        Due.same("as they were then", x.at(1, 50, 0), before);
        x.unsee();
        Due.same("anew", x.keep(), 4);
        Due.same("other ones", x.at(1, 50, 0) != before, true);
        x.grid(2000, 1, 1);
        Due.same("fewer", x.keep(), 1);
        Due.same("those of before are gone", x.way(1, 0), NO_VALUE);
        Due.same("those of before are gone", x.at(1, 0, 0), NO_VALUE);
        Due.same("those of before are gone", x.fits(1, 0), -1);
        Due.same("those of before are gone", x.period(1), -1);
        Due.same("those of before are gone", x.near(1, 0, 0), -1);
    }

    /** As many as can be kept: 100 ways. */
    private static CometBench full() {
        CometBench x = new CometBench();
        x.masses(0, 0);
        x.round(false, -5000, 5000);
        x.sight(0, 0, 1, 0, 0);
        x.sight(0, 1, 1, 0, 0);
        x.grid(100, 50, 10);
        x.base(0, 1);
        return x;
    }

    private static void wayOfNone() {
        CometBench x = full();
        for (int what = 0; what <= 6; what++) {
            Due.same("ahead of any keep()", x.way(0, what), NO_VALUE);
        }
        Due.same("all: keep", x.keep(), 100);
        for (int what = 0; what <= 6; what++) {
            Due.same("ahead of the first", x.way(-1, what), NO_VALUE);
            Due.same("the first", x.way(0, what) != NO_VALUE, true);
            Due.same("the last", x.way(99, what) != NO_VALUE, true);
            for (int k : FAR) {
                Due.same("way(" + k + ", " + what + ")", x.way(k, what), NO_VALUE);
            }
        }
        x.sight(1, 0, 1, 0, 0);
        Due.same("none: keep", x.keep(), 0);
        Due.same("none are kept", x.way(0, 0), NO_VALUE);
    }

    private static void wayForOthers() {
        CometBench x = Scenes.begun(-7, 3000, 40, 50, -60);
        x.keep();
        int[] due = {0, 0, 3000, 40, 50, -60, -7};
        for (int what = 0; what <= 6; what++) {
            Due.same("way(0, " + what + ")", x.way(0, what), due[what]);
        }
        for (int what : new int[] {-1, 7, 8, -2147483648, 2147483647}) {
            Due.same("way(0, " + what + ")", x.way(0, what), NO_VALUE);
        }
    }

    private static void atOfNone() {
        CometBench x = full();
        Due.same("ahead of any keep()", x.at(0, 0, 0), NO_VALUE);
        x.keep();
        Due.same("the first", x.at(0, 0, 0), -4900);
        Due.same("the last", x.at(99, 0, 0), -5000 + 100 + 450);
        Due.same("ahead of the first", x.at(-1, 0, 0), NO_VALUE);
        for (int k : FAR) {
            Due.same("at(" + k + ", 0, 0)", x.at(k, 0, 0), NO_VALUE);
        }
        x.sight(1, 0, 1, 0, 0);
        x.keep();
        Due.same("none are kept", x.at(0, 0, 0), NO_VALUE);
    }

    private static void atForOthers() {
        CometBench x = Scenes.begun(-7, 3000, 40, 50, -60);
        x.keep();
        Scenes.state("where it begins", x, 0, -7, 3000, 40, 50, -60);
        Scenes.state("the last step", x, 0, 300, 3000 + 307 * 50, 40 - 307 * 60, 50, -60);
        Scenes.state("the first step", x, 0, -300, 3000 - 293 * 50, 40 + 293 * 60, 50, -60);
        for (int step : new int[] {-301, 301, -2147483648, 2147483647}) {
            Scenes.state("beyond it", x, 0, step, NO_VALUE, NO_VALUE, NO_VALUE, NO_VALUE);
        }
        for (int what : new int[] {-1, 4, 5, -2147483648, 2147483647}) {
            Due.same("at(0, 0, " + what + ")", x.at(0, 0, what), NO_VALUE);
        }
    }

    private static void fitsOfNone() {
        CometBench x = full();
        Due.same("ahead of any keep()", x.fits(0, 0), -1);
        x.keep();
        Due.same("the first of both", x.fits(0, 0), 1);
        Due.same("the last of both", x.fits(99, 1), 1);
        Due.same("a way ahead of the first", x.fits(-1, 0), -1);
        Due.same("a sight ahead of the first", x.fits(0, -1), -1);
        Due.same("a sight behind the last", x.fits(0, 2), -1);
        for (int one : FAR) {
            Due.same("fits(" + one + ", 0)", x.fits(one, 0), -1);
            Due.same("fits(0, " + one + ")", x.fits(0, one), -1);
        }
        for (int i = 2; i < 12; i++) {
            x.sight(2, 0, 1, 0, 0);
        }
        Due.same("the twelfth sight", x.fits(0, 11), 1);
        Due.same("a thirteenth", x.fits(0, 12), -1);
        x.unsee();
        Due.same("one that has gone", x.fits(0, 11), -1);
        x.sight(1, 0, 1, 0, 0);
        x.keep();
        Due.same("none are kept", x.fits(0, 0), -1);
    }

    private static void fitsAsItIsNow() {
        CometBench x = Scenes.begun(0, 5000, 0, 0, 0);
        x.sight(2, 7, 1, 0, 0);
        x.keep();
        Due.same("as it is", x.fits(0, 2), 1);
        x.unsee();
        x.sight(1, 7, -1, 0, 0);
        Due.same("another one by that number", x.fits(0, 2), 0);
        CometBench y = full();
        y.keep();
        y.sight(0, 1, 5, -5, 1000);
        Due.same("one that came behind keep()", y.fits(0, 2), 1);
        // Had the earth a second place, the night at step 1 would be seen from there.
        y.round(false, 0, 20000);
        Due.same("the earth as it was", y.fits(0, 1), 1);
        Due.same("the earth as it was", y.fitting(1), 100);
    }

    private static void fittingOfNone() {
        CometBench x = full();
        Due.same("ahead of any keep(), nothing is kept", x.fitting(0), 0);
        x.keep();
        Due.same("the first", x.fitting(0), 100);
        Due.same("the last", x.fitting(1), 100);
        Due.same("behind the last", x.fitting(2), -1);
        Due.same("ahead of the first", x.fitting(-1), -1);
        for (int sight : FAR) {
            Due.same("fitting(" + sight + ")", x.fitting(sight), -1);
        }
        // Of the three kinds a tail is from the sun, and the earth is 5000 before it.
        x.sight(1, 0, 1, 0, 1000);
        Due.same("none fits", x.fitting(2), 0);
        x.keep();
        Due.same("none are kept", x.fitting(0), 0);
        for (int i = 3; i < 12; i++) {
            x.sight(2, 0, 1, 0, 0);
        }
        Due.same("the twelfth", x.fitting(11), 0);
        Due.same("a thirteenth", x.fitting(12), -1);
    }

    private static void withoutABase() {
        CometBench x = new CometBench();
        Due.same("without sights", x.without(0), -1);
        x.sight(0, 0, 1, 0, 0);
        x.sight(0, 1, 1, 0, 0);
        x.sight(2, 1, 1, 0, 0);
        for (int sight = -1; sight <= 3; sight++) {
            Due.same("without a base: without(" + sight + ")", x.without(sight), -1);
        }
        x.base(0, 1);
        Due.same("with a base", x.without(2), 36);
        Due.same("nothing is kept by that", x.all(3), -1);
    }

    private static void withoutOneOfTheBase() {
        CometBench x = Scenes.two(1000, 1);
        Due.same("the earlier one", x.without(0), -1);
        Due.same("the later one", x.without(1), -1);
        Due.same("the third", x.without(2), 4);
        Due.same("none such", x.without(3), -1);
        Due.same("none such", x.without(-1), -1);
        for (int sight : FAR) {
            Due.same("without(" + sight + ")", x.without(sight), -1);
        }
        Due.same("another base", x.base(2, 0), true);
        Due.same("the one that was of it", x.without(1) >= 0, true);
        Due.same("the later one now", x.without(2), -1);
    }

    private static void withoutAsItIsNow() {
        CometBench x = Scenes.two(1000, 1);
        x.keep();
        x.grid(1000, 1, 1);
        Due.same("by the grid as it is now", x.without(2), 1);
        x.grid(1000, 1, 3);
        Due.same("by the grid as it is now", x.without(2), 9);
        x.sight(1, 2, 0, 1, 400);
        // At step 2 the ways are at about -1000, 2000: 500 aside.
        Due.same("by the sights as they are now", x.without(2), 0);
        Due.same("by the other sights", x.without(3), 2);
        x.miss(3, 1000);
        Due.same("by the misses as they are now", x.without(2), 9);
        Due.same("KEPT are as they were", x.all(3), 2);
        Due.same("KEPT are as they were", x.way(1, 0) * 10 + x.way(1, 1), 10);
    }

    /** Two nights of one direction from the earth at 0, 0; an annal, and a tail at step 1. */
    private static CometBench alongOne(int first, int a, int b, int tailA, int tailB) {
        CometBench x = new CometBench();
        x.masses(0, 0);
        x.round(false, 0, 0);
        x.sight(0, first, a, b, 0);
        x.sight(0, first + 1, a, b, 0);
        x.sight(2, 5, 1, 0, 0);
        x.sight(1, 1, tailA, tailB, 0);
        x.grid(1000, 1, 1);
        x.base(0, 1);
        return x;
    }

    private static void withoutByTheEarthAsItIsNow() {
        int[][] moves = {{1, 0}, {0, 1}, {-2, 1}, {3, -2}};
        for (int first = 0; first <= 1; first++) {
            for (int a = 0; a <= 1; a++) {
                for (int[] move : moves) {
                    // The second place is the earth's at step 1: the way is 1000 off that one now.
                    int x = move[0] + a;
                    int y = move[1] + 1 - a;
                    CometBench bench = alongOne(first, a, 1 - a, x, y);
                    bench.keep();
                    bench.round(false, 1000 * move[0], 1000 * move[1]);
                    String scene = "night " + first + " from " + move[0] + ", " + move[1];
                    Due.same(scene + ": without", bench.without(2), 1);
                    Due.same(scene + ": keep", bench.keep(), 1);
                }
            }
        }
    }

    private static void allOfAll() {
        CometBench x = full();
        x.round(true, 1, 2);
        x.round(true, 1, 2);
        x.round(true, 1, 2);
        x.sight(2, 0, 1, 0, 0);
        x.sight(2, 0, 1, 0, 0);
        int[] due = {4, 1, 3, -1};
        for (int what = 0; what <= 3; what++) {
            Due.same("all(" + what + ")", x.all(what), due[what]);
        }
        x.without(2);
        x.fitting(0);
        Due.same("ahead of any keep()", x.all(3), -1);
        x.keep();
        Due.same("as many as can be", x.all(3), 100);
        x.sight(1, 0, 1, 0, 0);
        Due.same("as they were then", x.all(3), 100);
        x.keep();
        Due.same("none, but behind a keep()", x.all(3), 0);
        for (int what : new int[] {-1, 4, 5, -2147483648, 2147483647}) {
            Due.same("all(" + what + ")", x.all(what), -1);
        }
    }
}
