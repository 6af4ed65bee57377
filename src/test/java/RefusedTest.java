import java.util.ArrayList;
import java.util.List;
import java.util.function.Supplier;
import java.util.function.ToLongFunction;

/**
 * A refused call changes nothing that later calls show. Two benches are made alike and one of them
 * is asked for what is refused; then both must tell the same of all there is, also behind a later
 * keep(), which shows the tables, masses, sights, grid and base.
 */
public final class RefusedTest {
    private record Refused(String call, ToLongFunction<CometBench> asked, long due) {
    }

    private static final int[] BEYOND_STEPS = {-301, 301, -2147483648, 2147483647};

    public static void main(String[] args) {
        inAnyState("a new bench", CometBench::new, false);
        inAnyState("a bench ahead of keep()", () -> begun(false), true);
        inAnyState("a bench behind keep()", () -> begun(true), true);
        inAnyState("a bench changed since keep()", RefusedTest::changed, true);
        inAnyState("a bench with nothing kept", RefusedTest::nothingKept, true);
        each("a new bench", CometBench::new, List.of(
            new Refused("unsee()", CometBench::unsee, -1),
            new Refused("keep()", CometBench::keep, -1),
            new Refused("way(0, 0)", x -> x.way(0, 0), -1000000),
            new Refused("at(0, 0, 0)", x -> x.at(0, 0, 0), -1000000),
            new Refused("fits(0, 0)", x -> x.fits(0, 0), -1),
            new Refused("period(0)", x -> x.period(0), -1),
            new Refused("span(true)", x -> x.span(true), -1),
            new Refused("near(-1, 0, 9)", x -> x.near(-1, 0, 9), -1),
            new Refused("near(0, 0, 9)", x -> x.near(0, 0, 9), -1)));
        each("a bench that has lost its base", RefusedTest::withoutBase, List.of(
            new Refused("keep()", CometBench::keep, -1),
            new Refused("without(0)", x -> x.without(0), -1)));
        each("a full bench", RefusedTest::full, List.of(
            new Refused("round(false, 1, 2)", x -> x.round(false, 1, 2), -1),
            new Refused("round(true, 1, 2)", x -> x.round(true, 1, 2), -1),
            new Refused("sight(0, 9, 1, 0, 1000)", x -> x.sight(0, 9, 1, 0, 1000), -1),
            new Refused("miss(12, 0)", x -> x.miss(12, 0), -1)));
        Due.end("RefusedTest");
    }

    private static CometBench begun(boolean isKept) {
        CometBench x = new CometBench();
        x.masses(30000000, 2000000);
        int[][] earth = {{900, 0}, {600, 600}, {0, 900}, {-600, 600}, {-900, 0}};
        for (int[] place : earth) {
            x.round(false, place[0], place[1]);
            x.round(true, 3 * place[1], -4 * place[0]);
        }
        x.sight(0, -3, 3, 1, 700);
        x.sight(0, 9, 1, 3, 700);
        x.sight(1, 4, 2, 3, 900);
        x.sight(2, -20, 3, -1, 800);
        x.sight(0, 11, 1, 2, 900);
        x.grid(1500, 900, 4);
        x.base(0, 1);
        if (isKept) {
            Due.same("ways are kept", x.keep() > 3, true);
            Due.same("a near pass is told", x.near(0, -9, 9) > 0, true);
        }
        return x;
    }

    private static CometBench changed() {
        CometBench x = begun(true);
        x.round(false, -600, -600);
        x.round(true, 2000, 2000);
        x.masses(25000000, 1000000);
        x.miss(2, 950);
        x.grid(1400, 700, 5);
        x.base(1, 4);
        return x;
    }

    private static CometBench nothingKept() {
        CometBench x = begun(true);
        x.sight(1, 0, -1, -1, 0);
        Due.same("nothing is kept", x.keep(), 0);
        x.unsee();
        return x;
    }

    private static CometBench withoutBase() {
        CometBench x = begun(true);
        x.round(false, -600, -600);
        x.grid(1400, 700, 5);
        while (x.all(0) > 1) {
            x.unsee();
        }
        x.sight(0, 9, 1, 3, 700);
        return x;
    }

    private static CometBench full() {
        CometBench x = begun(true);
        for (int i = 5; i < 40; i++) {
            x.round(false, 900 - 40 * i, 30 * i);
            x.round(true, 50 * i, 2000 - 90 * i);
        }
        for (int i = 5; i < 12; i++) {
            x.sight(2, i, 1, 1, 500 + i);
        }
        Due.same("full", x.all(0) * 10000 + x.all(1) * 100 + x.all(2), 124040);
        return x;
    }

    /** Calls that are refused whatever the bench holds; those of its sights only if it has some. */
    private static void inAnyState(String state, Supplier<CometBench> made, boolean hasSights) {
        List<Refused> calls = new ArrayList<>();
        places(calls);
        masses(calls);
        sights(calls, hasSights);
        grids(calls);
        bases(calls);
        ways(calls);
        patches(calls);
        passes(calls);
        each(state, made, calls);
    }

    private static void places(List<Refused> calls) {
        for (int far : new int[] {-20001, 20001, -2147483648, 2147483647}) {
            for (boolean isPlanet : new boolean[] {false, true}) {
                calls.add(new Refused("round(" + isPlanet + ", " + far + ", 0)",
                    x -> x.round(isPlanet, far, 0), -1));
                calls.add(new Refused("round(" + isPlanet + ", 0, " + far + ")",
                    x -> x.round(isPlanet, 0, far), -1));
            }
        }
    }

    private static void masses(List<Refused> calls) {
        for (int mass : new int[] {-1, 1000000001, -2147483648, 2147483647}) {
            calls.add(new Refused("masses(" + mass + ", 5000000)",
                x -> x.masses(mass, 5000000) ? 1 : 0, 0));
            calls.add(new Refused("masses(5000000, " + mass + ")",
                x -> x.masses(5000000, mass) ? 1 : 0, 0));
        }
    }

    private static void sights(List<Refused> calls, boolean hasSights) {
        int[][] cannot = {{-1, 2, 1, 0, 0}, {3, 2, 1, 0, 0}, {0, -301, 1, 0, 0}, {0, 301, 1, 0, 0},
            {0, 2, 0, 0, 0}, {0, 2, 1001, 0, 0}, {0, 2, 0, -1001, 0}, {0, 2, -1001, 0, 0},
            {0, 2, 0, 1001, 0}, {0, 2, 1, 0, -1}, {0, 2, 1, 0, 1001}};
        for (int[] s : cannot) {
            calls.add(new Refused("sight " + java.util.Arrays.toString(s),
                x -> x.sight(s[0], s[1], s[2], s[3], s[4]), -1));
        }
        for (int one : new int[] {-1, 12, -2147483648, 2147483647}) {
            calls.add(new Refused("miss(" + one + ", 1)", x -> x.miss(one, 1), -1));
            calls.add(new Refused("fitting(" + one + ")", x -> x.fitting(one), -1));
            calls.add(new Refused("without(" + one + ")", x -> x.without(one), -1));
            calls.add(new Refused("fits(0, " + one + ")", x -> x.fits(0, one), -1));
        }
        calls.add(new Refused("miss just behind", x -> x.miss(x.all(0), 1), -1));
        if (hasSights) {
            for (int miss : new int[] {-1, 1001, -2147483648, 2147483647}) {
                calls.add(new Refused("miss(2, " + miss + ")", x -> x.miss(2, miss), -1));
            }
            calls.add(new Refused("without(1)", x -> x.without(1), -1));
        }
    }

    private static void grids(List<Refused> calls) {
        int[][] cannot = {{0, 100, 3}, {20001, 100, 3}, {2000, 0, 3}, {2000, 2001, 3}, {2000, 100, 0},
            {2000, 100, 11}};
        for (int[] g : cannot) {
            calls.add(new Refused("grid " + java.util.Arrays.toString(g),
                x -> x.grid(g[0], g[1], g[2]) ? 1 : 0, 0));
        }
    }

    private static void bases(List<Refused> calls) {
        int[][] cannot = {{0, 0}, {0, 2}, {2, 0}, {3, 1}, {1, 3}, {-1, 1}, {0, -1}, {0, 12}, {12, 1},
            {2147483647, -2147483648}};
        for (int[] b : cannot) {
            calls.add(new Refused("base " + java.util.Arrays.toString(b),
                x -> x.base(b[0], b[1]) ? 1 : 0, 0));
        }
    }

    private static void ways(List<Refused> calls) {
        for (int k : new int[] {-2, 100, -2147483648, 2147483647}) {
            calls.add(new Refused("way(" + k + ", 0)", x -> x.way(k, 0), -1000000));
            calls.add(new Refused("at(" + k + ", 0, 0)", x -> x.at(k, 0, 0), -1000000));
            calls.add(new Refused("fits(" + k + ", 0)", x -> x.fits(k, 0), -1));
            calls.add(new Refused("period(" + k + ")", x -> x.period(k), -1));
            calls.add(new Refused("near(" + k + ", 0, 9)", x -> x.near(k, 0, 9), -1));
        }
        calls.add(new Refused("way(0, 7)", x -> x.way(0, 7), -1000000));
        calls.add(new Refused("at(0, 0, 4)", x -> x.at(0, 0, 4), -1000000));
        calls.add(new Refused("all(4)", x -> x.all(4), -1));
        calls.add(new Refused("all(-1)", x -> x.all(-1), -1));
    }

    private static void patches(List<Refused> calls) {
        for (int step : BEYOND_STEPS) {
            calls.add(new Refused("at(0, " + step + ", 0)", x -> x.at(0, step, 0), -1000000));
            calls.add(new Refused("patch(" + step + ")", x -> x.patch(step), -1));
            calls.add(new Refused("side(" + step + ")", x -> x.side(step, true), -1));
            calls.add(new Refused("tells(" + step + ", 0)", x -> x.tells(step, 0), -1000));
            calls.add(new Refused("tells(0, " + step + ")", x -> x.tells(0, step), -1000));
        }
        calls.add(new Refused("tells(1, 0)", x -> x.tells(1, 0), -1000));
    }

    private static void passes(List<Refused> calls) {
        for (int step : BEYOND_STEPS) {
            calls.add(new Refused("near(0, " + step + ", 0)", x -> x.near(0, step, 0), -1));
            calls.add(new Refused("near(-1, 0, " + step + ")", x -> x.near(-1, 0, step), -1));
        }
        calls.add(new Refused("near(0, 1, 0)", x -> x.near(0, 1, 0), -1));
        calls.add(new Refused("near(-1, 1, 0)", x -> x.near(-1, 1, 0), -1));
    }

    private static void each(String state, Supplier<CometBench> made, List<Refused> calls) {
        for (Refused one : calls) {
            CometBench asked = made.get();
            CometBench left = made.get();
            String scene = state + ", " + one.call;
            Due.same(scene, one.asked.applyAsLong(asked), one.due);
            List<Long> due = shown(left);
            List<Long> got = shown(asked);
            Due.same(scene + ": how much is shown", got.size(), due.size());
            for (int i = 0; i < due.size(); i++) {
                Due.same(scene + ": what is shown, " + i, got.get(i), due.get(i));
            }
        }
    }

    /** All that later calls show, in some 300 calls; the bench is another one behind that. */
    private static List<Long> shown(CometBench x) {
        List<Long> row = new ArrayList<>();
        row.add((long) x.nearest());
        kept(x, row);
        row.add((long) x.keep());
        kept(x, row);
        // A base and a grid of its own, lest the rest stay unseen on a bench without them.
        row.add((long) x.sight(0, 0, 2, 1, 1000));
        row.add((long) x.sight(0, 7, 1, 2, 1000));
        int last = x.all(0) - 1;
        row.add(x.base(last - 1, last) ? 1L : 0L);
        row.add((long) x.keep());
        kept(x, row);
        for (int s = 0; s < x.all(0); s++) {
            row.add((long) x.miss(s, 1000));
        }
        return row;
    }

    private static void kept(CometBench x, List<Long> row) {
        for (int what = 0; what <= 3; what++) {
            row.add((long) x.all(what));
        }
        for (int what = 0; what <= 6; what++) {
            row.add((long) x.way(0, what));
            row.add((long) x.way(x.all(3) - 1, what));
        }
        for (int step : new int[] {-30, -1, 10, 30}) {
            for (int what = 0; what <= 3; what++) {
                row.add((long) x.at(x.all(3) / 2, step, what));
            }
            row.add((long) x.patch(step));
            row.add((long) x.side(step, true));
            row.add((long) x.side(step, false));
            row.add(x.near(-1, step, step));
        }
        for (int s = 0; s < 5; s++) {
            row.add((long) x.fits(0, s));
            row.add((long) x.fitting(s));
            row.add((long) x.without(s));
        }
        row.add((long) x.tells(-12, 12));
        row.add((long) x.period(0));
        row.add((long) x.span(true));
        row.add(x.near(0, -20, 20));
        row.add((long) x.nearest());
    }
}
