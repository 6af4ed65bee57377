/** Promises 18 to 21: periods, their span, near passes and when they are. */
public final class PassesTest {
    public static void main(String[] args) {
        period();
        periodLost();
        periodsOfOrbits();
        span();
        near();
        nearLost();
        nearest();
        Due.end("PassesTest");
    }

    /**
     * A comet on the line y = 0 that nothing pulls but a planet of 1000000, which throws it by
     * 100 a step from 100 away; it begins at 2000 with -100 at a step.
     */
    private static CometBench thrown(int step, int count, int... planet) {
        CometBench x = new CometBench();
        x.masses(0, 1000000);
        x.sight(0, step, 1, 0, 0);
        x.sight(0, step + 1, 1, 0, 0);
        x.base(0, 1);
        x.grid(1000, 1, 1);
        Scenes.earth(x, 40, step, 1000, 0, step + 1, 900, 0);
        Scenes.planet(x, count, planet);
        return x;
    }

    private static void period() {
        // 1600 at steps 4 and 5, 2000 at 9 and 10, and so on.
        CometBench x = thrown(0, 10, 0, 1900, 4, 1700, 5, 1700, 9, 1900);
        Due.same("even: keep", x.keep(), 1);
        Scenes.state("even", x, 0, 4, 1600, 0, 0, 0);
        Scenes.state("even", x, 0, 5, 1600, 0, 100, 0);
        Scenes.state("even", x, 0, 300, 2000, 0, -100, 0);
        Due.same("even: period", x.period(0), 10);

        // 1600 at steps 4 and 5: the pass is at 4. Then at 13 it is thrown back by 204 at 1700.
        CometBench y = thrown(0, 40, 4, 1700, 5, 1700, 9, 1900, 10, 1900, 13, 1770);
        Due.same("uneven: keep", y.keep(), 1);
        Scenes.state("uneven", y, 0, 13, 1700, 0, 104, 0);
        Due.same("uneven: period", y.period(0), 9);

        // Thrown out at 1900 by 204, back at step 150 at 17396, out again at step 299 at 2496.
        CometBench far = thrown(0, 40, 1, 1970, 30, 17326, 19, 2566);
        Due.same("first and last step: keep", far.keep(), 1);
        Scenes.state("first and last step", far, 0, 1, 1900, 0, 104, 0);
        Scenes.state("first and last step", far, 0, 150, 17396, 0, -100, 0);
        Scenes.state("first and last step", far, 0, 299, 2496, 0, 104, 0);
        Due.same("first and last step: period", far.period(0), 298);

        CometBench z = Scenes.cross(1000, 500);
        z.keep();
        Due.same("one pass only", z.period(0), 0);
        for (int k : new int[] {-1, 4, -2147483648, 2147483647}) {
            Due.same("period(" + k + ")", z.period(k), -1);
        }
    }

    private static void periodLost() {
        // At 13 it is thrown out by 1000000: it is lost at 14, so 13 is no pass.
        CometBench x = thrown(0, 40, 4, 1700, 5, 1700, 9, 1900, 10, 1900, 13, 1701);
        x.keep();
        Scenes.state("thrown out", x, 0, 13, 1700, 0, 999900, 0);
        Due.same("thrown out", x.at(0, 14, 0), -1000000);
        Due.same("thrown out: period", x.period(0), 0);

        // Thrown out by 62500 it is lost one step later, which is too late to matter.
        CometBench late = thrown(0, 40, 4, 1700, 5, 1700, 9, 1900, 10, 1900, 13, 1704);
        late.keep();
        Scenes.state("thrown out late", late, 0, 14, 64100, 0, 62400, 0);
        Due.same("thrown out late", late.at(0, 15, 0), -1000000);
        Due.same("thrown out late: period", late.period(0), 9);

        // Even again, seen from step 10 on; and once more so that it is lost at 0 on the way back.
        int[] even = {4, 1700, 5, 1700, 9, 1900, 10, 1900, 14, 1700, 15, 1700, 19, 1900, 20, 1900,
            24, 1700, 25, 1700, 29, 1900, 30, 1900, 34, 1700, 35, 1700, 39, 1900, 0, 1900};
        CometBench y = thrown(10, 40, even);
        Due.same("from 10 on: keep", y.keep(), 1);
        Due.same("from 10 on: at 0", y.at(0, 0, 0), 2000);
        Due.same("from 10 on: period", y.period(0), 10);
        int[] lost = java.util.Arrays.copyOf(even, even.length + 2);
        lost[even.length] = 1;
        lost[even.length + 1] = 1901;
        CometBench z = thrown(10, 40, lost);
        Due.same("lost at 0: keep", z.keep(), 1);
        Due.same("lost at 0: at 1", z.at(0, 1, 0), 1900);
        Due.same("lost at 0: at 0", z.at(0, 0, 0), -1000000);
        Due.same("lost at 0: at 24", z.at(0, 24, 0), 1600);
        Due.same("lost at 0: period", z.period(0), 0);
    }

    private static CometBench orbits() {
        CometBench x = new CometBench();
        x.sight(0, 0, 1, 0, 1000);
        x.sight(0, 10, 540, 841, 1000);
        x.grid(900, 60, 5);
        x.base(0, 1);
        return x;
    }

    /** The period as the document says it, by what at() tells. */
    private static int periodByPlaces(CometBench x, int k) {
        int first = 0;
        for (int t = 1; t <= 299; t++) {
            if (x.at(k, t + 1, 0) == -1000000 || x.at(k, 0, 0) == -1000000) {
                return 0;
            }
            if (square(x, k, t) < square(x, k, t - 1) && square(x, k, t) <= square(x, k, t + 1)) {
                if (first > 0) {
                    return t - first;
                }
                first = t;
            }
        }
        return 0;
    }

    private static long square(CometBench x, int k, int step) {
        long p = x.at(k, step, 0);
        long q = x.at(k, step, 1);
        return p * p + q * q;
    }

    private static void periodsOfOrbits() {
        CometBench x = orbits();
        int count = x.keep();
        Due.same("orbits are kept", count > 10, true);
        int with = 0;
        for (int k = 0; k < count; k++) {
            int due = periodByPlaces(x, k);
            Due.same("period(" + k + ")", x.period(k), due);
            with += due > 0 ? 1 : 0;
        }
        Due.same("some have a period", with > 5, true);
    }

    private static void span() {
        CometBench one = thrown(0, 10, 0, 1900, 4, 1700, 5, 1700, 9, 1900);
        one.keep();
        Due.same("span least of one", one.span(false), 10);
        Due.same("span greatest of one", one.span(true), 10);
        CometBench x = orbits();
        x.grid(960, 20, 4);
        int count = x.keep();
        int least = Integer.MAX_VALUE;
        int greatest = 0;
        for (int k = 0; k < count; k++) {
            least = Math.min(least, periodByPlaces(x, k));
            greatest = Math.max(greatest, periodByPlaces(x, k));
        }
        Due.same("all have a period, not all the same", least > 0 && least < greatest, true);
        Due.same("span least", x.span(false), least);
        Due.same("span greatest", x.span(true), greatest);

        CometBench y = orbits();
        y.grid(500, 500, 6);
        int many = y.keep();
        int first = 0;
        int none = 0;
        for (int k = 0; k < many; k++) {
            first = Math.max(first, y.period(k));
            none += y.period(k) == 0 ? 1 : 0;
        }
        Due.same("one has a period and one has none", first > 0 && none > 0, true);
        Due.same("span least if one has none", y.span(false), 0);
        Due.same("span greatest if one has none", y.span(true), 0);

        y.grid(1, 1, 1);
        Due.same("keep none", y.keep(), 0);
        Due.same("span least without any", y.span(false), -1);
        Due.same("span greatest without any", y.span(true), -1);
    }

    private static void near() {
        CometBench x = Scenes.cross(1000, 500);
        x.keep();
        Due.same("near 0", x.near(0, 0, 10), 500000);
        Due.same("nearest 0", x.nearest(), 5);
        Due.same("near 1", x.near(1, 0, 10), 692500);
        Due.same("nearest 1", x.nearest(), 3);
        Due.same("near 1 from 4 on", x.near(1, 4, 10), 720000);
        Due.same("nearest 1 from 4 on", x.nearest(), 4);
        Due.same("near any", x.near(-1, -300, 300), 500000);
        Due.same("nearest any", x.nearest(), 5);
        Due.same("near one step", x.near(3, 0, 0), 2250000);
        Due.same("nearest one step", x.nearest(), 0);
        int[][] wrong = {{-2, 0, 10}, {4, 0, 10}, {0, 10, 0}, {0, -301, 0}, {0, 0, 301},
            {-1, 1, 0}, {2147483647, 0, 10}, {-2147483648, 0, 10}, {0, -2147483648, 2147483647},
            {-1, 2147483647, -2147483648}};
        for (int[] one : wrong) {
            Due.same("near(" + one[0] + ", " + one[1] + ", " + one[2] + ")",
                x.near(one[0], one[1], one[2]), -1);
        }
        Due.same("nearest is as it was", x.nearest(), 0);
    }

    private static void nearLost() {
        CometBench x = Scenes.line(1, 0, 990);
        x.keep();
        Due.same("the last step ahead of that", x.near(0, 100, 300), 10000000000L);
        Due.same("nearest", x.nearest(), 100);
        Due.same("lost at all", x.near(0, 101, 300), -1);
        Due.same("lost at all", x.near(-1, -300, -1), -1);
        Due.same("nearest is as it was", x.nearest(), 100);
        Due.same("lost at some", x.near(-1, -300, 0), 1000000);
        Due.same("nearest", x.nearest(), 0);
    }

    private static void nearest() {
        CometBench x = Scenes.cross(1000, 500);
        Due.same("ahead of any", x.nearest(), -1000);
        x.keep();
        Due.same("ahead of any near()", x.nearest(), -1000);
        x.near(0, 301, 301);
        Due.same("ahead of any near() that told one", x.nearest(), -1000);

        // Away from step 5 it is as near at step 4 as at step 6.
        CometBench y = Scenes.cross(1000, 500);
        Scenes.earth(y, 31, 5, -5000, -5000);
        y.keep();
        Due.same("as near twice", y.near(0, 3, 7), 520000);
        Due.same("the least step", y.nearest(), 4);

        CometBench own = Scenes.cross(1000, 500);
        Scenes.earth(own, 31, 5, 500, 750);
        own.keep();
        Due.same("the next one's", own.near(1, 5, 5), 0);
        Due.same("its own distance, not the next one's", own.near(0, 5, 5), 62500);
        Due.same("any one's", own.near(-1, 5, 5), 0);
        Due.same("the step", own.nearest(), 5);

        // Of 400, 900 and 600, 600 at step 6, of 200, 1200 and 300, 800 at step 8: 100 off both
        // times, the second way at the step that is less.
        CometBench z = Scenes.cross(1000, 500);
        z.sight(0, 5, 1, -1, 0);
        Scenes.earth(z, 31, 5, 0, 1250, 6, 600, 500, 8, 200, 1300);
        Due.same("two", z.keep(), 2);
        Due.same("as near by two ways", z.near(-1, 6, 8), 10000);
        Due.same("the least step of both", z.nearest(), 6);
        z.keep();
        z.unsee();
        Due.same("it stays", z.nearest(), 6);
    }
}
