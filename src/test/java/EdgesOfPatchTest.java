/** Terms III and promises 15 to 17: the edges of the patch, of its sides and its width. */
public final class EdgesOfPatchTest {
    private static final int NONE = -1;
    private static final int OPEN = -2;

    public static void main(String[] args) {
        stepsAtTheEdge();
        oneAlone();
        leftOfTheOther();
        neitherIsLeft();
        theLeastOfSeveral();
        alwaysOneFarther();
        quarterIsOpen();
        widthIsFloored();
        widestThatIsTold();
        lostOnesDoNotCount();
        nothingKept();
        earthBelowZero();
        tellsOneStep();
        tellsTheWidest();
        tellsTheLeast();
        tellsNone();
        Due.end("EdgesOfPatchTest");
    }

    private static void patch(String scene, CometBench x, int step, int width, int left, int right) {
        Due.same(scene + ": patch(" + step + ")", x.patch(step), width);
        Due.same(scene + ": side(" + step + ", true)", x.side(step, true), left);
        Due.same(scene + ": side(" + step + ", false)", x.side(step, false), right);
    }

    /** Two ways; at step 5 the first is p, q off the earth, the second 4 by and 5 by less. */
    private static CometBench seen(int by, int p, int q) {
        CometBench x = Scenes.two(2000, by, 5, -8000 - p, 5 * (2000 + by) - q);
        Due.same("two ways: keep", x.keep(), 2);
        return x;
    }

    private static void stepsAtTheEdge() {
        CometBench x = Scenes.two(300, 20, 20, 5, -7);
        Due.same("two ways: keep", x.keep(), 2);
        for (int step : new int[] {-300, -299, 299, 300}) {
            long earthX = step % 20 == 0 ? 5 : 0;
            long earthY = step % 20 == 0 ? -7 : 0;
            long p = (1 - step) * 300 - earthX;
            long q = step * 320 - earthY;
            long otherP = (1 - step) * 320 - earthX;
            long otherQ = step * 300 - earthY;
            long width = 1000 * Math.abs(p * otherQ - q * otherP) / (p * otherP + q * otherQ);
            Due.same("a width at " + step, width > 0, true);
            boolean isFirstLeft = p * otherQ - q * otherP < 0;
            patch("at the edge", x, step, (int) width, isFirstLeft ? 0 : 1, isFirstLeft ? 1 : 0);
        }
        for (int step : new int[] {-301, 301, -2147483648, 2147483647}) {
            patch("beyond it", x, step, NONE, NONE, NONE);
        }
    }

    private static void oneAlone() {
        CometBench x = Scenes.begun(0, 5000, 0, 0, 0, 7, 5000, 0, 8, 5001, 0);
        x.keep();
        patch("one alone", x, 0, 0, 0, 0);
        patch("one alone, behind the earth", x, 8, 0, 0, 0);
        // Nothing times nothing is not above 0.
        patch("one alone, on the earth", x, 7, OPEN, 0, 0);
    }

    private static void leftOfTheOther() {
        patch("the first is left", seen(1, 5, 1), 5, 21000, 0, 1);
        patch("the second is left", seen(1, -1, 1), 5, 9000, 1, 0);
        // 9, 11 and 5, 6; 7, 9 and 3, 4; -5, -6 and -9, -11: 1 aside is enough.
        patch("the first is just left", seen(1, 9, 11), 5, 1000 / (9 * 5 + 11 * 6), 0, 1);
        patch("the second is just left", seen(1, 7, 9), 5, 1000 / (7 * 3 + 9 * 4), 1, 0);
        patch("the second is just left", seen(1, -5, -6), 5, 1000 / (5 * 9 + 6 * 11), 1, 0);
    }

    private static void neitherIsLeft() {
        patch("in one direction", seen(1, 8, 10), 5, 0, 0, 0);
        patch("in one direction, the second farther", seen(1, -4, -5), 5, 0, 0, 0);
        patch("straight opposite", seen(2, 4, 5), 5, 0, 0, 0);
        patch("the first on the earth", seen(1, 0, 0), 5, OPEN, 0, 0);
        patch("the second on the earth", seen(1, 4, 5), 5, 0, 0, 0);
    }

    /** Four ways, at step 20 at -1000, 2000; -1000, 3000; -1500, 2000 and -1500, 3000. */
    private static CometBench four(int earthX, int earthY) {
        CometBench x = Scenes.cross(1000, 500);
        Scenes.earth(x, 31, 20, earthX, earthY);
        Due.same("four ways: keep", x.keep(), 4);
        return x;
    }

    private static void theLeastOfSeveral() {
        // 1000 * 1000 aside of 1000 * 1000, and so on: two of the four are in line each time.
        patch("0 and 2 are left", four(0, 2000), 20, 1000, 0, 1);
        patch("1 and 3 are right", four(0, 3000), 20, 1000, 0, 1);
        patch("1 and 3 are left", four(-3000, 3000), 20, 666, 1, 2);
        patch("0 and 2 are right", four(-3000, 2000), 20, 666, 3, 0);
        patch("2 and 3 are left", four(-1500, 0), 20, 250, 2, 0);
        patch("2 and 3 are right", four(-1500, 5000), 20, 250, 1, 2);
        patch("0 and 1 are right", four(-1000, 0), 20, 250, 2, 0);
        patch("0 and 1 are left", four(-1000, 5000), 20, 250, 0, 3);
    }

    private static void alwaysOneFarther() {
        patch("in the midst of them", four(-1250, 2500), 20, OPEN, NONE, NONE);
        patch("just inside", four(-1001, 2001), 20, OPEN, NONE, NONE);
        // Between two of them these are opposite, and neither is left of the other one.
        patch("on a side of the four", four(-1000, 2500), 20, OPEN, 0, 1);
        patch("on the other side", four(-1500, 2500), 20, OPEN, 3, 2);
        patch("on a corner", four(-1000, 2000), 20, OPEN, 0, 0);
        // None is left of the one on the earth, nor of another one: that is the less one.
        patch("on the last corner", four(-1500, 3000), 20, OPEN, 1, 2);
        patch("just outside", four(-999, 2500), 20, OPEN, 0, 1);
    }

    private static void quarterIsOpen() {
        patch("a quarter", seen(1, 4, 0), 5, OPEN, 0, 1);
        patch("a quarter, the second left", seen(1, 0, 5), 5, OPEN, 1, 0);
        // 5, 1 and 1, -4; 5, 2 and 1, -3.
        patch("1 along", seen(1, 5, 1), 5, 21000, 0, 1);
        patch("-1 along", seen(1, 5, 2), 5, OPEN, 0, 1);
    }

    private static void widthIsFloored() {
        // 9, 1 and 5, -4: 41 aside of 41. 10, 1 and 6, -4: 46 aside of 56, that is 821.4.
        patch("just 1000", seen(1, 9, 1), 5, 1000, 0, 1);
        patch("821.4", seen(1, 10, 1), 5, 821, 0, 1);
        // 6, 1 and 2, -4: 26 aside of 8. 7, 3 and 3, -2: 23 aside of 15, that is 1533.3.
        patch("just 3250", seen(1, 6, 1), 5, 3250, 0, 1);
        patch("1533.3", seen(1, 7, 3), 5, 1533, 0, 1);
        // 260020 aside of 1684075971: less than a thousandth.
        CometBench x = Scenes.two(2000, 1, 5, 20000, -20000);
        x.keep();
        patch("0.15", x, 5, 0, 1, 0);
    }

    private static void widestThatIsTold() {
        // At step 8: -1331, 1647 and -9465, -7649, that is 25769674 aside of 12.
        CometBench below = Scenes.two(1000, 1162, 8, -7000 + 1331, 8 * 2162 - 1647);
        Due.same("just below: keep", below.keep(), 2);
        patch("just below", below, 8, 2147472833, 1, 0);
        // 14814, 1038 and 1031, -14714, that is 219043374 aside of 102: 2147484058.
        CometBench above = Scenes.two(300, 1969, 8, -2100 - 14814, 8 * 2269 - 1038);
        Due.same("just above: keep", above.keep(), 2);
        patch("just above", above, 8, 2147483647, 0, 1);
        // 2249, 310 and 259, -1879 at step 11: 4306161 aside of 1, and that is more than an int
        // can tell once round.
        CometBench far = Scenes.two(1000, 199, 11, -10000 - 2249, 11 * 1199 - 310);
        Due.same("far above: keep", far.keep(), 2);
        patch("far above", far, 11, 2147483647, 0, 1);
    }

    /** The first is lost from 100 on and from -100 back, the second from 101 and from -99. */
    private static CometBench goingOut() {
        CometBench x = Scenes.two(1000, 1, 39, 3000, 3000);
        Due.same("going out: keep", x.keep(), 2);
        return x;
    }

    private static void lostOnesDoNotCount() {
        CometBench x = goingOut();
        Due.same("the first at 99", x.at(0, 99, 1), 99 * 1001);
        Due.same("the first at 100", x.at(0, 100, 1), -1000000);
        Due.same("the second at 100", x.at(1, 100, 1), 100000);
        Due.same("the second at 101", x.at(1, 101, 1), -1000000);
        Due.same("the first at -99", x.at(0, -99, 0), 100000);
        Due.same("the second at -99", x.at(1, -99, 0), -1000000);
        patch("both", x, 99, 0, 1, 0);
        patch("the second alone", x, 100, 0, 1, 1);
        patch("none is there", x, 101, NONE, NONE, NONE);
        patch("none is there", x, 300, NONE, NONE, NONE);
        patch("the first alone", x, -99, 0, 0, 0);
        patch("none is there", x, -100, NONE, NONE, NONE);
        patch("none is there", x, -300, NONE, NONE, NONE);
    }

    private static void nothingKept() {
        CometBench x = Scenes.two(1000, 1);
        patch("ahead of any keep()", x, 5, NONE, NONE, NONE);
        Due.same("ahead of any keep(): tells", x.tells(-300, 300), -1000);
        x.sight(1, 5, 0, -1, 0);
        Due.same("none: keep", x.keep(), 0);
        patch("none are kept", x, 5, NONE, NONE, NONE);
        Due.same("none are kept: tells", x.tells(-300, 300), -1000);
        x.unsee();
        Due.same("two again: keep", x.keep(), 2);
        patch("they are kept", x, 5, 0, 1, 0);
        x.sight(1, 5, 0, -1, 0);
        Due.same("none again: keep", x.keep(), 0);
        patch("none are kept again", x, 5, NONE, NONE, NONE);
    }

    private static void earthBelowZero() {
        // At step -3 the ways are at 8000, -6003 and 8004, -6000, and the earth's place is the 37th.
        CometBench x = Scenes.two(2000, 1, -3, 8000, -6000, 3, 1, 1);
        Due.same("below 0: keep", x.keep(), 2);
        // 0, -3 and 4, 0.
        patch("a quarter below 0", x, -3, OPEN, 1, 0);
        Due.same("tells below 0", x.tells(-10, -1), -3);
        CometBench y = Scenes.two(2000, 1, 3, 8000, -6000);
        y.keep();
        Due.same("not at the step without its sign", y.patch(-3) >= 0, true);
    }

    private static void tellsOneStep() {
        CometBench x = Scenes.two(300, 20);
        x.keep();
        for (int step : new int[] {-300, -1, 0, 1, 300}) {
            Due.same("one step " + step, x.tells(step, step), step);
        }
        int[][] cannot = {{-301, -301}, {301, 301}, {-301, 300}, {-300, 301}, {-301, 301}, {1, 0},
            {0, -1}, {300, -300}, {-299, -300}, {300, 299}, {-2147483648, 2147483647},
            {2147483647, -2147483648}, {2147483647, 2147483647}, {-2147483648, -2147483648},
            {0, 2147483647}, {-2147483648, 0}};
        for (int[] one : cannot) {
            Due.same("tells(" + one[0] + ", " + one[1] + ")", x.tells(one[0], one[1]), -1000);
        }
    }

    /** Widths of 0 but at step 5, 21000, and at steps 9 and 13, a quarter. */
    private static CometBench someWide() {
        CometBench x = Scenes.two(1000, 1, 5, -4000 - 5, 5005 - 1, 9, -8000 - 8, 9009, 13,
            -12000 - 12, 13013);
        Due.same("some wide: keep", x.keep(), 2);
        Due.same("some wide: 4", x.patch(4), 0);
        Due.same("some wide: 5", x.patch(5), 21000);
        Due.same("some wide: 9", x.patch(9), OPEN);
        Due.same("some wide: 13", x.patch(13), OPEN);
        return x;
    }

    private static void tellsTheWidest() {
        CometBench x = someWide();
        Due.same("up to the one ahead of it", x.tells(3, 4), 3);
        Due.same("up to it", x.tells(3, 5), 5);
        Due.same("from it on", x.tells(5, 8), 5);
        Due.same("from the one behind it on", x.tells(6, 8), 6);
        Due.same("open is wider", x.tells(3, 9), 9);
        Due.same("open first", x.tells(9, 12), 9);
        Due.same("behind the open one", x.tells(10, 12), 10);
        CometBench far = Scenes.two(1000, 199, 11, -10000 - 2249, 11 * 1199 - 310, 12,
            -11000 - 11 * 199, 12 * 1199);
        far.keep();
        Due.same("at most", far.patch(11), 2147483647);
        Due.same("a quarter", far.patch(12), OPEN);
        Due.same("the widest that is told", far.tells(3, 11), 11);
        Due.same("open is wider than that", far.tells(3, 12), 12);
    }

    private static void tellsTheLeast() {
        CometBench x = someWide();
        Due.same("of two open ones", x.tells(3, 13), 9);
        Due.same("the other one", x.tells(10, 13), 13);
        Due.same("of all without a width", x.tells(14, 20), 14);
        // 2345609 and 2860809 aside of 1 are told alike.
        CometBench alike = Scenes.two(1000, 161, 10, -9000 - 1519, 11610 - 69, 11, -10000 - 1729,
            11 * 1161 - 125);
        Due.same("alike: keep", alike.keep(), 2);
        Due.same("alike: 10", alike.patch(10), 2147483647);
        Due.same("alike: 11", alike.patch(11), 2147483647);
        Due.same("of two that are at most", alike.tells(3, 20), 10);
        Due.same("the other one of them", alike.tells(11, 20), 11);
    }

    private static void tellsNone() {
        CometBench x = goingOut();
        Due.same("the last that has any", x.tells(100, 300), 100);
        Due.same("none of them has any", x.tells(101, 300), -1000);
        Due.same("the first that has any", x.tells(-300, -99), -99);
        Due.same("none of them has any", x.tells(-300, -100), -1000);
    }
}
