/** Promises 15 to 17: how wide the patch is, its sides, the step that tells most. */
public final class PatchTest {
    public static void main(String[] args) {
        width();
        open();
        widest();
        lost();
        tells();
        Due.end("PatchTest");
    }

    private static void patch(String scene, CometBench x, int step, int width, int left, int right) {
        Due.same(scene + ": side(" + step + ", true)", x.side(step, true), left);
        Due.same(scene + ": patch(" + step + ")", x.patch(step), width);
        Due.same(scene + ": side(" + step + ", false)", x.side(step, false), right);
    }

    private static void width() {
        CometBench x = Scenes.cross(1000, 500);
        x.keep();
        Due.same("asked first of all", x.patch(5), 416);
        // 500, 750 is left of 750, 500: 312500 over 750000.
        patch("four", x, 5, 416, 1, 2);
        patch("four", x, 4, 384, 1, 2);
        patch("all in one direction", x, 0, 0, 0, 0);
        patch("all in one direction", x, 10, 0, 0, 0);
        for (int step : new int[] {-301, 301, -2147483648, 2147483647}) {
            patch("a step that can't be", x, step, -1, -1, -1);
        }
        // Only those that are seen count: 500, 500 and 750, 750 are in one direction.
        x.sight(0, 5, 1, 1, 0);
        x.keep();
        patch("two", x, 5, 0, 0, 0);
        // Step 2 has 800, 200 and 1200, 300; step 20 has -1000, 2000 and -1500, 3000.
        patch("two", x, 2, 0, 0, 0);
        patch("two", x, 20, 0, 0, 0);
    }

    private static void open() {
        CometBench x = Scenes.cross(1000, 500);
        // At step 3 the earth is where the first way is; at 5 it is just above the middle of the
        // four, at 7 in the midst of them, at 8 to the right of the last two, in line with them.
        Scenes.earth(x, 31, 3, 700, 300, 5, 620, 490, 7, 370, 900, 8, 250, 800);
        Due.same("keep", x.keep(), 4);
        patch("on the earth", x, 3, -2, 0, 0);
        patch("wider than a quarter", x, 5, -2, 0, 2);
        patch("all around", x, 7, -2, -1, -1);
        // From 250, 800: -50, 0; -50, 400; 50, 0; 50, 400. The two at the ends are opposite.
        patch("a half", x, 8, -2, 0, 2);
        Due.same("tells: the first open one", x.tells(0, 10), 3);
        Due.same("tells: the next open one", x.tells(4, 10), 5);
        Due.same("tells: the one behind that", x.tells(6, 10), 7);
        Due.same("tells: without an open one", x.tells(0, 2), 2);

        // Two that are straight opposite: neither is left of the other one.
        CometBench y = Scenes.cross(1000, 500);
        y.sight(0, 5, 1, 1, 0);
        Scenes.earth(y, 31, 6, 500, 750);
        Due.same("keep", y.keep(), 2);
        // At step 6 they are at 400, 600 and 600, 900.
        patch("opposite", y, 6, 0, 0, 0);
    }

    private static void widest() {
        CometBench x = Scenes.cross(1000, 1000);
        // At step 5 the even ones are not seen in this direction: 500, 1000 and 1000, 500 are.
        x.sight(0, 5, 1, -1, 0);
        Scenes.earth(x, 31, 5, 0, 1500, 20, -2301, 3780, 22, -1800, 3200);
        Due.same("keep", x.keep(), 2);
        // At step 20: 1301, 220 and 301, -1780 from the earth: 2382000 over 1.
        patch("at most", x, 20, 2147483647, 0, 1);
        // At step 22: 600, 1200 and -600, -1000 from the earth, so the second one is to the left.
        patch("open", x, 22, -2, 1, 0);
        Due.same("tells: the widest that is not open", x.tells(11, 21), 20);
        Due.same("tells: open is wider than all", x.tells(11, 22), 22);
    }

    private static void lost() {
        CometBench x = Scenes.line(1, 0, 990);
        x.keep();
        patch("one", x, 100, 0, 0, 0);
        patch("none are there", x, 101, -1, -1, -1);
        patch("none are there", x, -1, -1, -1, -1);
        Due.same("tells: none has any", x.tells(101, 300), -1000);
        Due.same("tells: the one that has", x.tells(100, 300), 100);
        Due.same("tells: the least of several", x.tells(-300, 300), 0);

        CometBench y = new CometBench();
        y.masses(0, 0);
        y.sight(0, 0, 1, 0, 1000);
        y.sight(0, 10, 1, 0, 1000);
        y.grid(1000, 2000, 2);
        y.base(0, 1);
        Due.same("keep", y.keep(), 4);
        // To 3000 from 1000: 200 a step, lost at -5; and the rest the other way.
        Due.same("lost", y.at(1, -5, 0), -1000000);
        patch("those that are not lost", y, -5, 0, 0, 0);
        Due.same("lost", y.at(2, 15, 0), -1000000);
        patch("those that are not lost", y, 15, 0, 0, 0);

        CometBench none = Scenes.line(1, 0, 990);
        none.grid(1, 1, 1);
        Due.same("keep none", none.keep(), 0);
        patch("nothing kept", none, 0, -1, -1, -1);
        Due.same("tells: nothing kept", none.tells(-300, 300), -1000);
    }

    private static void tells() {
        CometBench x = Scenes.cross(1000, 500);
        x.keep();
        Due.same("tells", x.tells(0, 10), 5);
        Due.same("tells up to 4", x.tells(0, 4), 4);
        Due.same("tells from 6 on", x.tells(6, 10), 6);
        Due.same("tells one step", x.tells(0, 0), 0);
        int[][] wrong = {{10, 0}, {1, 0}, {-301, 0}, {0, 301}, {-301, 301},
            {-2147483648, 2147483647}, {2147483647, -2147483648}, {301, 302}};
        for (int[] one : wrong) {
            Due.same("tells(" + one[0] + ", " + one[1] + ")", x.tells(one[0], one[1]), -1000);
        }
        Due.same("tells over all", x.tells(-300, 300) >= -300, true);
    }
}
