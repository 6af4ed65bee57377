import java.math.BigInteger;
import java.util.ArrayList;
import java.util.HashMap;
import java.util.List;
import java.util.Map;

/**
 * The document once more, written to be read and not to be quick, as what the random runs are
 * held against. It shares no code and no layout with the bench: roots by BigInteger, states by
 * step with their speeds, ways as plain rows, sides of the patch by all pairs.
 */
final class PlainBench {
    record Seen(int kind, int step, int a, int b, int miss) {
    }

    record Kept(int i, int j, long[] begin, int step, Map<Integer, long[]> states) {
    }

    private List<long[]> earth = new ArrayList<>();
    private List<long[]> planet = new ArrayList<>();
    private long sunMass = 10000000;
    private long planetMass = 0;
    private final List<Seen> sights = new ArrayList<>();
    private int[] pair = null;
    private int from = 500;
    private int by = 500;
    private int n = 6;
    private List<Kept> kept = null;
    private List<long[]> earthThen = new ArrayList<>();
    private int nearestStep = -1000;

    private static boolean in(long value, long least, long most) {
        return least <= value && value <= most;
    }

    private static long[] bodyAt(List<long[]> table, int step) {
        if (table.isEmpty()) {
            return new long[] {0, 0};
        }
        int size = table.size();
        return table.get(((step % size) + size) % size);
    }

    private static long root(long square) {
        return BigInteger.valueOf(square).sqrt().longValueExact();
    }

    private static long[] pull(long mass, long[] body, long x, long y) {
        long p = body[0] - x;
        long q = body[1] - y;
        long s = p * p + q * q;
        if (s == 0) {
            return new long[] {0, 0};
        }
        BigInteger down = BigInteger.valueOf(s).multiply(BigInteger.valueOf(root(s)));
        BigInteger m = BigInteger.valueOf(mass);
        return new long[] {
            m.multiply(BigInteger.valueOf(p)).divide(down).longValueExact(),
            m.multiply(BigInteger.valueOf(q)).divide(down).longValueExact()};
    }

    private static boolean lost(long x, long y) {
        return !in(x, -100000, 100000) || !in(y, -100000, 100000) || x * x + y * y < 100 * 100;
    }

    private long[] on(long[] c, int toStep) {
        long x = c[0] + c[2];
        long y = c[1] + c[3];
        if (lost(x, y)) {
            return null;
        }
        long[] s = pull(sunMass, new long[] {0, 0}, x, y);
        long[] p = pull(planetMass, bodyAt(planet, toStep), x, y);
        return new long[] {x, y, c[2] + s[0] + p[0], c[3] + s[1] + p[1]};
    }

    private long[] back(long[] c, int fromStep) {
        long[] s = pull(sunMass, new long[] {0, 0}, c[0], c[1]);
        long[] p = pull(planetMass, bodyAt(planet, fromStep), c[0], c[1]);
        long u = c[2] - s[0] - p[0];
        long v = c[3] - s[1] - p[1];
        return lost(c[0] - u, c[1] - v) ? null : new long[] {c[0] - u, c[1] - v, u, v};
    }

    /** All steps at which it is not lost, each with place and speed. */
    private Map<Integer, long[]> states(long[] begin, int step, int least, int most) {
        Map<Integer, long[]> found = new HashMap<>();
        if (lost(begin[0], begin[1])) {
            return found;
        }
        long[] c = begin;
        for (int t = step; c != null && t <= most; t++) {
            found.put(t, c);
            c = on(c, t + 1);
        }
        c = begin;
        for (int t = step; c != null && t >= least; t--) {
            found.put(t, c);
            c = back(c, t);
        }
        return found;
    }

    /** Where a comet would go by the tables and masses as they are, for runs to take sights of. */
    Map<Integer, long[]> travel(long[] begin, int step) {
        return states(begin, step, -300, 300);
    }

    private long[] placeFor(Seen s, int k) {
        long d = from + (long) by * k;
        long l = root((long) s.a * s.a + (long) s.b * s.b);
        long[] e = bodyAt(earth, s.step);
        return new long[] {e[0] + s.a * d / l, e[1] + s.b * d / l};
    }

    private Kept lay(int i, int j) {
        Seen one = sights.get(pair[0]);
        Seen two = sights.get(pair[1]);
        long[] a = placeFor(one, i);
        long[] b = placeFor(two, j);
        long days = two.step - one.step;
        long[] begin = {a[0], a[1], (b[0] - a[0]) / days, (b[1] - a[1]) / days};
        for (int turn = 0; turn < 3; turn++) {
            long[] there = states(begin, one.step, one.step, two.step).get(two.step);
            if (there != null) {
                begin = new long[] {begin[0], begin[1], begin[2] + (b[0] - there[0]) / days,
                    begin[3] + (b[1] - there[1]) / days};
            }
        }
        return new Kept(i, j, begin, one.step, states(begin, one.step, -300, 300));
    }

    private static boolean fit(Kept w, Seen s, List<long[]> earthTable) {
        long[] c = w.states.get(s.step);
        if (c == null) {
            return false;
        }
        long[] o = s.kind == 1 ? new long[] {0, 0} : bodyAt(earthTable, s.step);
        long p = c[0] - o[0];
        long q = c[1] - o[1];
        long dot = s.a * p + s.b * q;
        long cross = s.a * q - s.b * p;
        return dot > 0 && 1000 * Math.abs(cross) <= s.miss * dot;
    }

    private List<Kept> find(int leftOut) {
        List<Kept> found = new ArrayList<>();
        for (int i = 0; i < n; i++) {
            for (int j = 0; j < n; j++) {
                Kept w = lay(i, j);
                boolean all = true;
                for (int s = 0; s < sights.size(); s++) {
                    if (s != leftOut && sights.get(s).kind != 2) {
                        all &= fit(w, sights.get(s), earth);
                    }
                }
                if (all) {
                    found.add(w);
                }
            }
        }
        return found;
    }

    int round(boolean isPlanet, int x, int y) {
        List<long[]> table = isPlanet ? planet : earth;
        if (!in(x, -20000, 20000) || !in(y, -20000, 20000) || table.size() == 40) {
            return -1;
        }
        table.add(new long[] {x, y});
        return table.size();
    }

    boolean masses(int sun, int isPlanet) {
        if (!in(sun, 0, 1000000000) || !in(isPlanet, 0, 1000000000)) {
            return false;
        }
        sunMass = sun;
        planetMass = isPlanet;
        return true;
    }

    int sight(int kind, int step, int a, int b, int miss) {
        boolean can = in(kind, 0, 2) && in(step, -300, 300) && in(a, -1000, 1000)
            && in(b, -1000, 1000) && !(a == 0 && b == 0) && in(miss, 0, 1000);
        if (!can || sights.size() == 12) {
            return -1;
        }
        sights.add(new Seen(kind, step, a, b, miss));
        return sights.size() - 1;
    }

    private boolean isSight(int s) {
        return in(s, 0, sights.size() - 1);
    }

    private boolean isKept(int k) {
        return kept != null && in(k, 0, kept.size() - 1);
    }

    int miss(int s, int miss) {
        if (!isSight(s) || !in(miss, 0, 1000)) {
            return -1;
        }
        Seen old = sights.get(s);
        sights.set(s, new Seen(old.kind, old.step, old.a, old.b, miss));
        return old.miss;
    }

    int unsee() {
        if (sights.isEmpty()) {
            return -1;
        }
        int last = sights.size() - 1;
        sights.remove(last);
        if (pair != null && (pair[0] == last || pair[1] == last)) {
            pair = null;
        }
        return last;
    }

    boolean grid(int newFrom, int newBy, int newN) {
        if (!in(newFrom, 1, 20000) || !in(newBy, 1, 2000) || !in(newN, 1, 10)) {
            return false;
        }
        from = newFrom;
        by = newBy;
        n = newN;
        return true;
    }

    boolean base(int a, int b) {
        if (!isSight(a) || !isSight(b)) {
            return false;
        }
        Seen one = sights.get(a);
        Seen two = sights.get(b);
        if (one.kind != 0 || two.kind != 0 || one.step == two.step) {
            return false;
        }
        pair = one.step < two.step ? new int[] {a, b} : new int[] {b, a};
        return true;
    }

    int keep() {
        if (pair == null) {
            return -1;
        }
        kept = find(-1);
        earthThen = new ArrayList<>(earth);
        return kept.size();
    }

    int way(int k, int what) {
        if (!isKept(k)) {
            return -1000000;
        }
        Kept w = kept.get(k);
        long[] told = {w.i, w.j, w.begin[0], w.begin[1], w.begin[2], w.begin[3], w.step};
        return in(what, 0, 6) ? (int) told[what] : -1000000;
    }

    int at(int k, int step, int what) {
        if (!isKept(k) || !in(step, -300, 300) || !in(what, 0, 3)) {
            return -1000000;
        }
        long[] c = kept.get(k).states.get(step);
        return c == null ? -1000000 : (int) c[what];
    }

    int fits(int k, int s) {
        if (!isKept(k) || !isSight(s)) {
            return -1;
        }
        return fit(kept.get(k), sights.get(s), earthThen) ? 1 : 0;
    }

    int fitting(int s) {
        if (!isSight(s)) {
            return -1;
        }
        int count = 0;
        for (int k = 0; isKept(k); k++) {
            count += fits(k, s);
        }
        return count;
    }

    int without(int s) {
        if (pair == null || !isSight(s) || s == pair[0] || s == pair[1]) {
            return -1;
        }
        return find(s).size();
    }

    /** Seen from the earth, or null if it is lost there. */
    private long[] from(int k, int step) {
        long[] c = kept.get(k).states.get(step);
        long[] e = bodyAt(earthThen, step);
        return c == null ? null : new long[] {c[0] - e[0], c[1] - e[1]};
    }

    int side(int step, boolean left) {
        if (!in(step, -300, 300)) {
            return -1;
        }
        for (int k = 0; isKept(k); k++) {
            boolean isLast = from(k, step) != null;
            for (int m = 0; isLast && isKept(m); m++) {
                if (from(m, step) != null) {
                    long[] one = left ? from(m, step) : from(k, step);
                    long[] other = left ? from(k, step) : from(m, step);
                    isLast = one[0] * other[1] - one[1] * other[0] >= 0;
                }
            }
            if (isLast) {
                return k;
            }
        }
        return -1;
    }

    int patch(int step) {
        boolean any = false;
        for (int k = 0; in(step, -300, 300) && isKept(k); k++) {
            any |= from(k, step) != null;
        }
        if (!any) {
            return -1;
        }
        int left = side(step, true);
        int right = side(step, false);
        if (left < 0 || right < 0) {
            return -2;
        }
        long[] l = from(left, step);
        long[] r = from(right, step);
        long dot = l[0] * r[0] + l[1] * r[1];
        if (dot <= 0) {
            return -2;
        }
        return (int) Math.min(2147483647L, 1000 * Math.abs(l[0] * r[1] - l[1] * r[0]) / dot);
    }

    int tells(int first, int last) {
        int best = -1000;
        double widest = -1;
        if (!in(first, -300, 300) || !in(last, -300, 300)) {
            return best;
        }
        for (int t = first; t <= last; t++) {
            int width = patch(t);
            double rank = width == -2 ? Double.POSITIVE_INFINITY : width;
            if (rank > widest) {
                widest = rank;
                best = t;
            }
        }
        return best;
    }

    int period(int k) {
        if (!isKept(k)) {
            return -1;
        }
        Map<Integer, long[]> states = kept.get(k).states;
        List<Integer> passes = new ArrayList<>();
        for (int t = 1; t <= 299; t++) {
            boolean there = true;
            for (int e = 0; e <= t + 1; e++) {
                there &= states.containsKey(e);
            }
            if (there) {
                long[] d = new long[3];
                for (int e = 0; e < 3; e++) {
                    long[] c = states.get(t - 1 + e);
                    d[e] = c[0] * c[0] + c[1] * c[1];
                }
                if (d[1] < d[0] && d[1] <= d[2]) {
                    passes.add(t);
                }
            }
        }
        return passes.size() < 2 ? 0 : passes.get(1) - passes.get(0);
    }

    int span(boolean greatest) {
        if (kept == null || kept.isEmpty()) {
            return -1;
        }
        int best = period(0);
        for (int k = 0; isKept(k); k++) {
            if (period(k) == 0) {
                return 0;
            }
            best = greatest ? Math.max(best, period(k)) : Math.min(best, period(k));
        }
        return best;
    }

    long near(int k, int first, int last) {
        long least = -1;
        if (!in(first, -300, 300) || !in(last, -300, 300)) {
            return least;
        }
        int where = -1000;
        for (int m = 0; isKept(m); m++) {
            for (int t = first; t <= last && (k == -1 || k == m); t++) {
                long[] d = from(m, t);
                long square = d == null ? -1 : d[0] * d[0] + d[1] * d[1];
                if (d != null && (least < 0 || square < least || square == least && t < where)) {
                    least = square;
                    where = t;
                }
            }
        }
        if (least >= 0) {
            nearestStep = where;
        }
        return least;
    }

    int nearest() {
        return nearestStep;
    }

    int all(int what) {
        return switch (what) {
            case 0 -> sights.size();
            case 1 -> earth.size();
            case 2 -> planet.size();
            case 3 -> kept == null ? -1 : kept.size();
            default -> -1;
        };
    }
}
