/** Promises 4 to 8: sights, their miss, the last one taken away, the grid, the base. */
public final class SightsTest {
    public static void main(String[] args) {
        wrongSights();
        twelveSights();
        miss();
        unsee();
        grid();
        base();
        Due.end("SightsTest");
    }

    private static void wrongSights() {
        CometBench x = new CometBench();
        int[][] wrong = {{-1, 0, 1, 0, 0}, {3, 0, 1, 0, 0}, {0, -301, 1, 0, 0}, {0, 301, 1, 0, 0},
            {0, 0, 1001, 0, 0}, {0, 0, -1001, 0, 0}, {0, 0, 0, 1001, 0}, {0, 0, 0, -1001, 0},
            {0, 0, 0, 0, 0}, {0, 0, 1, 0, -1}, {0, 0, 1, 0, 1001},
            {2147483647, 0, 1, 0, 0}, {0, -2147483648, 1, 0, 0}, {0, 0, -2147483648, 1, 0},
            {0, 0, 1, 2147483647, 0}, {0, 0, 1, 1, -2147483648}};
        for (int[] s : wrong) {
            Due.same("sight that can't be: " + java.util.Arrays.toString(s),
                x.sight(s[0], s[1], s[2], s[3], s[4]), -1);
        }
        Due.same("none of them counts", x.all(0), 0);
    }

    private static void twelveSights() {
        CometBench x = new CometBench();
        int[][] right = {{0, -300, 1000, 1000, 1000}, {1, 300, -1000, -1000, 0}, {2, 0, 0, 1, 1},
            {0, 0, 1, 0, 0}, {0, 1, -1, 0, 0}, {0, 2, 0, -1, 0}};
        for (int i = 0; i < 12; i++) {
            int[] s = right[i % right.length];
            Due.same("sight " + i, x.sight(s[0], s[1], s[2], s[3], s[4]), i);
        }
        Due.same("a thirteenth sight", x.sight(0, 0, 1, 0, 0), -1);
        Due.same("all(0)", x.all(0), 12);
        Due.same("unsee", x.unsee(), 11);
        Due.same("the twelfth again", x.sight(0, 0, 1, 0, 0), 11);
    }

    private static void miss() {
        CometBench x = Scenes.cross(1000, 500);
        x.sight(0, 5, 3, 1, 77);
        Due.same("miss", x.miss(2, 0), 77);
        Due.same("miss again", x.miss(2, 1000), 0);
        Due.same("miss below", x.miss(2, -1), -1);
        Due.same("miss above", x.miss(2, 1001), -1);
        Due.same("miss of none", x.miss(3, 5), -1);
        Due.same("miss of -1", x.miss(-1, 5), -1);
        Due.same("miss of the least", x.miss(-2147483648, 5), -1);
        Due.same("miss stayed", x.miss(2, 500), 1000);
        // At 500, 500 and 750, 750 it is 500 exactly; at 500, 750 above and at 750, 500 below.
        Due.same("keep with 500", x.keep(), 3);
        Due.same("miss 499", x.miss(2, 499), 500);
        Due.same("KEPT are as they were", x.all(3), 3);
        Due.same("fits by the miss as it is now", x.fits(0, 2), 0);
        Due.same("keep with 499", x.keep(), 1);
        Due.same("the one that is left", x.way(0, 0), 1);
        Due.same("the one that is left", x.way(0, 1), 0);
    }

    private static void unsee() {
        CometBench x = Scenes.cross(1000, 500);
        x.sight(0, 5, 1, 1, 0);
        Due.same("keep", x.keep(), 2);
        Due.same("unsee 2", x.unsee(), 2);
        Due.same("the base is still there", x.keep(), 4);
        Due.same("unsee 1", x.unsee(), 1);
        Due.same("the base is gone", x.keep(), -1);
        Due.same("the base is gone", x.without(0), -1);
        Due.same("KEPT stay", x.all(3), 4);
        Due.same("KEPT stay", x.way(3, 2), 1500);
        Due.same("fits none such", x.fits(0, 1), -1);
        Due.same("a sight again", x.sight(0, 10, 0, 1, 0), 1);
        Due.same("the base is still gone", x.keep(), -1);
        Due.same("unsee", x.unsee(), 1);
        Due.same("unsee", x.unsee(), 0);
        Due.same("unsee without any", x.unsee(), -1);
        Due.same("all(0)", x.all(0), 0);

        CometBench y = new CometBench();
        y.sight(0, 10, 0, 1, 0);
        y.sight(0, 0, 1, 0, 0);
        y.base(0, 1);
        Due.same("unsee the earlier one of the base", y.unsee(), 1);
        Due.same("the base is gone with it", y.keep(), -1);
    }

    private static void grid() {
        CometBench x = new CometBench();
        x.masses(0, 0);
        x.sight(0, 0, 1, 0, 0);
        x.sight(0, 10, 0, 1, 0);
        x.base(0, 1);
        int[][] wrong = {{0, 1, 1}, {20001, 1, 1}, {1, 0, 1}, {1, 2001, 1}, {1, 1, 0}, {1, 1, 11},
            {-2147483648, 1, 1}, {1, 2147483647, 1}, {1, 1, -1}};
        for (int[] g : wrong) {
            Due.same("grid that can't be: " + java.util.Arrays.toString(g),
                x.grid(g[0], g[1], g[2]), false);
        }
        Due.same("the grid at first: keep", x.keep(), 36);
        Due.same("the grid at first: from", x.way(0, 2), 500);
        Due.same("the grid at first: by", x.way(6, 2), 1000);
        Due.same("the grid at first: the last one", x.way(35, 2), 3000);
        Due.same("the order: k of the earlier one", x.way(8, 0), 1);
        Due.same("the order: k of the later one", x.way(8, 1), 2);
        Due.same("grid", x.grid(20000, 2000, 10), true);
        Due.same("KEPT are as they were", x.way(35, 2), 3000);
        Due.same("grid most: keep", x.keep(), 100);
        Due.same("grid most: the farthest", x.way(99, 2), 38000);
        Due.same("grid most: its speed", x.way(99, 4), -3800);
        Due.same("grid least", x.grid(1, 1, 1), true);
        Due.same("grid least: keep", x.keep(), 0);
    }

    private static void base() {
        CometBench x = Scenes.cross(1000, 500);
        x.sight(1, 5, 1, 1, 1000);
        x.sight(2, 6, 1, 1, 1000);
        x.sight(0, 0, 1, 0, 1000);
        int[][] wrong = {{0, 0}, {0, 4}, {4, 0}, {0, 2}, {2, 0}, {0, 3}, {3, 1}, {0, 5}, {5, 0},
            {-1, 0}, {0, -1}, {2147483647, 0}, {0, -2147483648}};
        for (int[] b : wrong) {
            Due.same("base that can't be: " + java.util.Arrays.toString(b), x.base(b[0], b[1]), false);
        }
        Due.same("the base from ahead of those stays", x.keep(), 4);
        Due.same("base the other way", x.base(1, 0), true);
        Due.same("the earlier one is first all the same", x.keep(), 4);
        Due.same("its step", x.way(0, 6), 0);
        Due.same("its place", x.way(0, 2), 1000);
        Due.same("without one of the base", x.without(0), -1);
        Due.same("without the other of the base", x.without(1), -1);
        Due.same("another base", x.base(4, 1), true);
        Due.same("without one that was of the base", x.without(0), 4);
    }
}
