/** Terms III and promises 18 to 21: the edges of passes and periods, of near passes and their step. */
public final class EdgesOfPeriodTest {
    public static void main(String[] args) {
        firstAndLastStep();
        stepZeroIsNoPass();
        stepThreeHundredIsNoPass();
        lostBehindThePass();
        lostAtStepZero();
        equalAheadAndBehind();
        fewerThanTwo();
        distancesAreNotCut();
        periodOfNone();
        spanIfOneHasNone();
        spanWithoutAny();
        nearAtTheEdge();
        nearCannotBe();
        nearOfNone();
        nearWhereLost();
        nearNothing();
        nearFarOut();
        nearOfAny();
        nearestAheadOfAny();
        nearestIsTheLeast();
        nearestStays();
        Due.end("EdgesOfPeriodTest");
    }

    /**
     * A comet on the line y = 0, at 2000 with a speed of -100 at a step. Nothing pulls but a
     * planet, told as step, x, which throws it by 204 from 70 off.
     */
    private static CometBench thrown(int step, int... planet) {
        CometBench x = Scenes.begun(step, 2000, 0, -100, 0);
        x.masses(0, 1000000);
        Scenes.planet(x, 40, planet);
        Due.same("thrown: keep", x.keep(), 1);
        return x;
    }

    private static void throwAt(CometBench x, int step, int place, int speed) {
        Scenes.state("thrown at " + step, x, 0, step, place, 0, speed, 0);
    }

    /** Out at 1900, back at 17396, 149 steps later, and out at 2496, 149 steps later again. */
    private static CometBench thrownThreeTimes(int first) {
        CometBench x = thrown(first - 1, first, 1970, first + 149, 17326, first + 298, 2566);
        throwAt(x, first, 1900, 104);
        throwAt(x, first + 149, 17396, -100);
        throwAt(x, first + 298, 2496, 104);
        return x;
    }

    private static void firstAndLastStep() {
        Due.same("passes at 1 and 299", thrownThreeTimes(1).period(0), 298);
    }

    private static void stepZeroIsNoPass() {
        Due.same("passes at 0 and 298", thrownThreeTimes(0).period(0), 0);
        Due.same("passes at -1 and 297", thrownThreeTimes(-1).period(0), 0);
    }

    private static void stepThreeHundredIsNoPass() {
        Due.same("passes at 2 and 300", thrownThreeTimes(2).period(0), 0);
    }

    private static void lostBehindThePass() {
        // From 1 off it is thrown by 1000000, from 4 off by 62500.
        CometBench lost = thrown(0, 1, 1970, 150, 17326, 299, 2497);
        throwAt(lost, 299, 2496, 999900);
        Due.same("lost at 300", lost.at(0, 300, 0), -1000000);
        Due.same("a pass at 299, lost at 300", lost.period(0), 0);
        CometBench late = thrown(0, 1, 1970, 150, 17326, 299, 2500);
        throwAt(late, 299, 2496, 62400);
        throwAt(late, 300, 64896, 62400);
        Due.same("a pass at 299, lost at 301", late.period(0), 298);
        CometBench first = thrown(0, 1, 1901);
        throwAt(first, 1, 1900, 999900);
        Due.same("a pass at 1, lost at 2", first.period(0), 0);
    }

    private static void lostAtStepZero() {
        // Back from step 0, where the planet is 1 off, it is lost at -1.
        CometBench ahead = thrown(0, 0, 2001, 1, 1970, 150, 17326, 299, 2566);
        Due.same("lost at -1", ahead.at(0, -1, 0), -1000000);
        Due.same("there at 0", ahead.at(0, 0, 0), 2000);
        Due.same("lost at -1: the period", ahead.period(0), 298);
        int[] planet = {2, 1970, 62, 8070, 93, 5110, 1, 2001};
        CometBench there = thrown(1, java.util.Arrays.copyOf(planet, 6));
        Due.same("there at 0", there.at(0, 0, 0), 2100);
        Due.same("there at 0: the period", there.period(0), 91);
        CometBench lost = thrown(1, planet);
        Due.same("lost at 0", lost.at(0, 0, 0), -1000000);
        throwAt(lost, 93, 5040, 104);
        Due.same("lost at 0: the period", lost.period(0), 0);
    }

    private static void equalAheadAndBehind() {
        // At rest at 1600 from step 4 to 5 and so on, each ten steps: thrown by 100 from 100 off.
        CometBench x = Scenes.begun(0, 2000, 0, -100, 0);
        x.masses(0, 1000000);
        Scenes.planet(x, 10, 0, 1900, 4, 1700, 5, 1700, 9, 1900);
        Due.same("at rest for a step: keep", x.keep(), 1);
        throwAt(x, 3, 1700, -100);
        throwAt(x, 4, 1600, 0);
        throwAt(x, 5, 1600, 100);
        throwAt(x, 6, 1700, 100);
        Due.same("a pass at 4 and none at 5", x.period(0), 10);
        CometBench y = Scenes.begun(0, 2000, 0, 0, 0);
        y.keep();
        Due.same("at rest for ever", y.period(0), 0);
    }

    private static void fewerThanTwo() {
        CometBench none = Scenes.begun(0, 2000, 0, 10, 0);
        none.keep();
        Due.same("always away from the sun", none.period(0), 0);
        CometBench one = Scenes.begun(0, 2000, 500, -100, 0);
        one.keep();
        Due.same("once past the sun", one.period(0), 0);
        Due.same("once past the sun: span", one.span(false), 0);
        CometBench only = thrown(0, 1, 1970, 150, 17326);
        Due.same("thrown back and never out", only.period(0), 0);
        Due.same("thrown out once more", thrownThreeTimes(1).period(0), 298);
    }

    private static void distancesAreNotCut() {
        // Along x = 1000 by 1 a step: 1000 * 1000 + 1 is farther than 1000 * 1000, if only a
        // little. At step 70 the planet throws it back by 2, from 10 off.
        CometBench x = Scenes.begun(0, 1000, -20, 0, 1);
        x.masses(0, 200);
        for (int step = 0; step < 40; step++) {
            x.round(true, step == 30 ? 1000 : 20000, step == 30 ? 40 : 20000);
        }
        Due.same("slowly past the sun: keep", x.keep(), 1);
        Scenes.state("slowly past the sun", x, 0, 20, 1000, 0, 0, 1);
        Scenes.state("slowly past the sun", x, 0, 70, 1000, 50, 0, -1);
        Scenes.state("slowly past the sun", x, 0, 120, 1000, 0, 0, -1);
        Due.same("slowly past the sun: the period", x.period(0), 100);
    }

    private static void periodOfNone() {
        CometBench x = Scenes.two(1000, 1);
        Due.same("ahead of any keep()", x.period(0), -1);
        x.keep();
        Due.same("the first", x.period(0), 0);
        Due.same("the last", x.period(1), 0);
        for (int k : new int[] {-1, 2, 99, 100, -2147483648, 2147483647}) {
            Due.same("period(" + k + ")", x.period(k), -1);
        }
    }

    private static CometBench orbits(int from, int by) {
        CometBench x = new CometBench();
        x.sight(0, 0, 1, 0, 1000);
        x.sight(0, 10, 540, 841, 1000);
        x.grid(from, by, 2);
        x.base(0, 1);
        return x;
    }

    private static void spanIfOneHasNone() {
        boolean onlyFirst = false;
        boolean onlyLast = false;
        boolean unlike = false;
        for (int from = 500; from <= 1500; from += 25) {
            for (int by = 50; by <= 800; by += 150) {
                CometBench x = orbits(from, by);
                int count = x.keep();
                int least = Integer.MAX_VALUE;
                int greatest = 0;
                int none = 0;
                for (int k = 0; k < count; k++) {
                    least = Math.min(least, x.period(k));
                    greatest = Math.max(greatest, x.period(k));
                    none += x.period(k) == 0 ? 1 : 0;
                }
                int due = count == 0 ? -1 : none > 0 ? 0 : 1;
                Due.same("span least", x.span(false), due == 1 ? least : due);
                Due.same("span greatest", x.span(true), due == 1 ? greatest : due);
                onlyFirst |= none == 1 && count > 1 && x.period(0) == 0;
                onlyLast |= none == 1 && count > 1 && x.period(count - 1) == 0;
                unlike |= none == 0 && least < greatest;
            }
        }
        Due.same("once only the first had none", onlyFirst, true);
        Due.same("once only the last had none", onlyLast, true);
        Due.same("once all had one, and unlike ones", unlike, true);
    }

    private static void spanWithoutAny() {
        CometBench x = orbits(1000, 1);
        Due.same("ahead of any keep(): least", x.span(false), -1);
        Due.same("ahead of any keep(): greatest", x.span(true), -1);
        x.sight(1, 0, -1, 0, 0);
        Due.same("none: keep", x.keep(), 0);
        Due.same("none are kept: least", x.span(false), -1);
        Due.same("none are kept: greatest", x.span(true), -1);
    }

    private static void nearAtTheEdge() {
        CometBench x = new CometBench();
        x.masses(0, 0);
        x.sight(0, 0, 1, 0, 0);
        x.sight(0, 10, 1, 0, 0);
        x.grid(20000, 600, 2);
        x.base(0, 1);
        Due.same("along one line: keep", x.keep(), 4);
        // The second is at 20000 + 60 t, the third at 20600 - 60 t, the others are at rest.
        Due.same("up to 300", x.near(2, -300, 300), 2600 * 2600);
        Due.same("at 300", x.nearest(), 300);
        Due.same("up to 299", x.near(2, -300, 299), 2660 * 2660);
        Due.same("at 299", x.nearest(), 299);
        Due.same("300 alone", x.near(2, 300, 300), 2600 * 2600);
        Due.same("from -300", x.near(1, -300, 300), 2000 * 2000);
        Due.same("at -300", x.nearest(), -300);
        Due.same("from -299", x.near(1, -299, 300), 2060 * 2060);
        Due.same("at -299", x.nearest(), -299);
        Due.same("-300 alone", x.near(1, -300, -300), 2000 * 2000);
        Due.same("any from -300", x.near(-1, -300, 300), 2000 * 2000);
        Due.same("any at -300", x.nearest(), -300);
        Due.same("any from -200", x.near(-1, -200, 300), 2600 * 2600);
        Due.same("any at 300", x.nearest(), 300);
    }

    private static void nearCannotBe() {
        CometBench x = Scenes.two(300, 20);
        x.keep();
        int[][] cannot = {{-301, 0}, {0, 301}, {-301, 301}, {1, 0}, {300, -300}, {-299, -300},
            {300, 299}, {-301, -301}, {301, 301}, {-2147483648, 0}, {0, 2147483647},
            {-2147483648, 2147483647}, {2147483647, -2147483648}, {2147483647, 2147483647}};
        for (int[] one : cannot) {
            for (int k = -1; k <= 1; k++) {
                Due.same("near(" + k + ", " + one[0] + ", " + one[1] + ")",
                    x.near(k, one[0], one[1]), -1);
            }
        }
        Due.same("none was told", x.nearest(), -1000);
    }

    private static void nearOfNone() {
        CometBench x = Scenes.two(300, 20);
        Due.same("ahead of any keep()", x.near(0, 0, 10), -1);
        Due.same("any, ahead of any keep()", x.near(-1, 0, 10), -1);
        x.keep();
        for (int k : new int[] {-2, 2, 99, 100, -2147483648, 2147483647}) {
            Due.same("near(" + k + ", 0, 10)", x.near(k, 0, 10), -1);
        }
        Due.same("none was told", x.nearest(), -1000);
        Due.same("the last", x.near(1, 1, 1), 300 * 300);
        x.sight(1, 5, 0, -1, 0);
        Due.same("none: keep", x.keep(), 0);
        Due.same("any of none", x.near(-1, -300, 300), -1);
        Due.same("one of none", x.near(0, -300, 300), -1);
        Due.same("as it was told", x.nearest(), 1);
    }

    private static void nearWhereLost() {
        // The first is lost from 100 on and from -100 back, the second from 101 and from -99.
        CometBench x = Scenes.two(1000, 1);
        x.keep();
        Due.same("lost at all", x.near(0, 100, 300), -1);
        Due.same("there at the first of them", x.near(0, 99, 300), 98000L * 98000 + 99099L * 99099);
        Due.same("at 99", x.nearest(), 99);
        Due.same("lost at all", x.near(0, -300, -100), -1);
        Due.same("there at the last of them", x.near(0, -300, -99), 100000L * 100000 + 99099L * 99099);
        Due.same("at -99", x.nearest(), -99);
        Due.same("one of them is there", x.near(-1, 100, 300), 99099L * 99099 + 100000L * 100000);
        Due.same("at 100", x.nearest(), 100);
        Due.same("all lost at all", x.near(-1, 101, 300), -1);
        Due.same("all lost at all", x.near(-1, -300, -100), -1);
        Due.same("as it was told", x.nearest(), 100);
    }

    private static void nearNothing() {
        CometBench x = Scenes.begun(0, 5000, 0, 0, 0, -1, 5000, 0, 1, 4999, 0);
        x.keep();
        Due.same("on the earth", x.near(0, -2, 0), 0);
        Due.same("at -1", x.nearest(), -1);
        Due.same("any on the earth", x.near(-1, -300, 300), 0);
        Due.same("at the least of those", x.nearest(), -281);
    }

    private static void nearFarOut() {
        CometBench x = Scenes.begun(0, 1000, 1000, 990, 990, 20, -20000, -20000);
        x.keep();
        Due.same("as far as can be", x.near(0, 100, 100), 28800000000L);
        Due.same("any as far as can be", x.near(-1, 100, 300), 28800000000L);
        Due.same("at 100", x.nearest(), 100);
    }

    private static void nearOfAny() {
        // At step 5 the ways are at -8000, 10005 and -8004, 10000.
        CometBench x = Scenes.two(2000, 1, 5, -8004, 9999, 6, -10000, 12007);
        x.keep();
        Due.same("the first", x.near(0, 5, 5), 4 * 4 + 6 * 6);
        Due.same("the second", x.near(1, 5, 5), 1);
        Due.same("any: the last is nearest", x.near(-1, 5, 5), 1);
        Due.same("any: the first is nearest", x.near(-1, 6, 6), 1);
        Due.same("at 6", x.nearest(), 6);
    }

    private static void nearestAheadOfAny() {
        CometBench x = Scenes.two(1000, 1);
        Due.same("a bench without any", x.nearest(), -1000);
        x.near(-1, 0, 10);
        x.keep();
        Due.same("ahead of any near()", x.nearest(), -1000);
        x.near(0, 100, 300);
        x.near(2, 0, 10);
        x.near(-1, 1, 0);
        Due.same("ahead of any that told one", x.nearest(), -1000);
        Due.same("one", x.near(0, 0, 0), 1000 * 1000);
        Due.same("that one", x.nearest(), 0);
    }

    private static void nearestIsTheLeast() {
        CometBench rest = Scenes.begun(0, 5000, 0, 0, 0);
        rest.keep();
        Due.same("as near for ever", rest.near(0, 2, 39), 5000 * 5000);
        Due.same("the first step", rest.nearest(), 2);
        Due.same("as near once each round", rest.near(0, -300, 300), 1000 * 1000);
        Due.same("the first such step", rest.nearest(), -280);
        // 1 off the second way at step 5, 1 off the first at step 6.
        CometBench x = Scenes.two(2000, 1, 5, -8004, 9999, 6, -10000, 12007);
        x.keep();
        Due.same("as near by two ways", x.near(-1, 3, 8), 1);
        Due.same("the less step, of the greater way", x.nearest(), 5);
        CometBench y = Scenes.two(2000, 1, 5, -8000, 10006, 6, -10005, 11999);
        y.keep();
        Due.same("as near by two ways", y.near(-1, 3, 8), 1);
        Due.same("the less step, of the less way", y.nearest(), 5);
    }

    private static void nearestStays() {
        CometBench x = Scenes.two(2000, 1, 5, -8004, 9999);
        x.keep();
        Due.same("near", x.near(1, 3, 8), 1);
        int[][] cannot = {{1, 8, 3}, {1, -301, 8}, {1, 3, 301}, {2, 3, 8}, {-2, 3, 8}};
        for (int[] one : cannot) {
            Due.same("refused", x.near(one[0], one[1], one[2]), -1);
            Due.same("it stays", x.nearest(), 5);
        }
        x.sight(1, 5, 0, -1, 0);
        Due.same("none: keep", x.keep(), 0);
        Due.same("it stays behind a keep()", x.nearest(), 5);
        Due.same("nothing is near", x.near(-1, -300, 300), -1);
        Due.same("it stays behind that", x.nearest(), 5);
        x.unsee();
        x.keep();
        x.near(0, 0, 0);
        Due.same("a later one is told", x.nearest(), 0);
    }
}
