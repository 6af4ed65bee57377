import java.util.Map;
import java.util.Random;
import java.util.TreeMap;

/** Runs of calls drawn by fixed seeds, each answer held against the plain bench's. */
public final class RandomRunsTest {
    private static final int[] ODD = {-2147483648, -1000000, -301, -300, -2, -1, 0, 1, 11, 12, 13,
        99, 100, 299, 300, 301, 1000, 1001, 20000, 20001, 1000000, 2147483647};

    private final Random random;
    private final int seed;
    private final CometBench bench = new CometBench();
    private final PlainBench plain = new PlainBench();
    private int calls = 0;
    private static final Map<String, Integer> MET = new TreeMap<>();

    private RandomRunsTest(int seed) {
        this.seed = seed;
        this.random = new Random(seed);
    }

    public static void main(String[] args) {
        int runs = args.length > 0 ? Integer.parseInt(args[0]) : 1500;
        for (int seed = 1; seed <= runs; seed++) {
            new RandomRunsTest(seed).run();
        }
        String[] wanted = {"kept", "kept 0", "kept 100", "period", "span", "patch open",
            "patch wide", "patch 0", "side none", "side and open", "lost", "speed", "fits", "fits not",
            "without more", "near", "tells", "refused base", "kept behind unsee"};
        for (String one : wanted) {
            Due.same("met " + one, MET.getOrDefault(one, 0) > 0, true);
        }
        System.out.println(MET);
        Due.end("RandomRunsTest");
    }

    private static void met(String what, boolean did) {
        if (did) {
            MET.merge(what, 1, Integer::sum);
        }
    }

    private int among(int least, int most) {
        return least + random.nextInt(most - least + 1);
    }

    private boolean seldom(int oneOf) {
        return random.nextInt(oneOf) == 0;
    }

    private int odd() {
        return ODD[random.nextInt(ODD.length)];
    }

    private int step() {
        return seldom(15) ? odd() : seldom(2) ? among(-20, 40) : among(-300, 300);
    }

    private int keptNumber() {
        int count = Math.max(1, plain.all(3));
        return seldom(15) ? odd() : among(0, count - 1);
    }

    private int sightNumber() {
        int count = Math.max(1, plain.all(0));
        return seldom(12) ? odd() : among(0, count - 1);
    }

    private void due(String call, long got, long want) {
        calls++;
        Due.same("seed " + seed + ", call " + calls + ": " + call, got, want);
    }

    private void due(String call, boolean got, boolean want) {
        due(call, got ? 1L : 0L, want ? 1L : 0L);
    }

    private void run() {
        if (seldom(4)) {
            beginAtEdges();
        } else if (seldom(5)) {
            beginWild();
        } else {
            beginWithComet();
        }
        keep();
        int count = among(20, 90);
        for (int i = 0; i < count; i++) {
            if (seldom(12)) {
                change();
            } else {
                ask();
            }
        }
    }

    private void circle(boolean isPlanet, int radius, int count) {
        double turn = random.nextDouble() * 6.28;
        for (int i = 0; i < count; i++) {
            double angle = turn + 6.283 * i / count;
            round(isPlanet, (int) (radius * Math.cos(angle)), (int) (radius * Math.sin(angle)));
        }
    }

    private void beginWithComet() {
        int mass = (int) Math.pow(10, 5 + 4 * random.nextDouble());
        masses(mass, seldom(2) ? 0 : mass / among(5, 100));
        int radius = among(200, 4000);
        if (!seldom(4)) {
            circle(false, among(100, 4000), among(1, 40));
        }
        if (!seldom(3)) {
            circle(true, among(500, 9000), among(1, 40));
        }
        double speed = Math.sqrt((double) mass / radius) * (0.3 + 1.1 * random.nextDouble());
        double place = random.nextDouble() * 6.28;
        double course = place + 1.57 + (random.nextDouble() - 0.5);
        long[] begin = {(long) (radius * Math.cos(place)), (long) (radius * Math.sin(place)),
            (long) (speed * Math.cos(course)), (long) (speed * Math.sin(course))};
        int wide = seldom(6) ? 150 : 12;
        int start = seldom(3) ? among(-200, 200) : 0;
        Map<Integer, long[]> states = plain.travel(begin, start);
        int sights = among(2, 6);
        for (int i = 0; i < sights; i++) {
            int step = Math.max(-300, Math.min(300, start + among(-wide, wide)));
            int kind = i < 2 ? 0 : among(0, 2);
            int miss = seldom(3) ? among(0, 60) : seldom(2) ? 1000 : among(200, 1000);
            long[] there = states.get(step);
            if (there == null) {
                sight(kind, step, among(-1000, 1000), among(-1000, 1000), miss);
                continue;
            }
            // The tables hold no look of their own: a far comet's direction is near enough.
            long great = Math.max(1, Math.max(Math.abs(there[0]), Math.abs(there[1])));
            sight(kind, step, (int) (there[0] * 1000 / great), (int) (there[1] * 1000 / great),
                i < 2 ? Math.max(miss, 40) : miss);
        }
        grid(Math.max(1, Math.min(20000, radius / 2)), among(1, Math.max(1, radius / 3)), among(1, 10));
        base();
    }

    private int either(int... values) {
        return values[random.nextInt(values.length)];
    }

    /** Values at their ends and few directions: much is in one line, opposite or on the earth. */
    private void beginAtEdges() {
        masses(either(0, 0, 0, 1, 10000000, 1000000000), either(0, 0, 1, 1000000, 1000000000));
        int unit = either(1, 100, 500, 1000);
        int places = either(0, 0, 1, 1, 2, 3, 40);
        for (int i = 0; i < places; i++) {
            round(false, unit * among(-3, 3), unit * among(-3, 3));
        }
        places = either(0, 1, 2, 40);
        for (int i = 0; i < places; i++) {
            round(true, unit * among(-3, 3), unit * among(-3, 3));
        }
        int first = either(-300, -1, 0, 1, 290);
        int sights = either(2, 2, 3, 12);
        for (int i = 0; i < sights; i++) {
            int kind = i < 2 ? 0 : among(0, 2);
            int step = i == 0 ? first : i == 1 ? first + either(1, 2, 5, 10) : first + among(0, 10);
            int miss = i < 2 ? either(0, 1000, 1000) : 1000;
            sight(kind, step, either(-1, 0, 1, 1000), either(-1, 0, 1, 1000), miss);
        }
        grid(either(unit, 1, 20000, 2 * unit), either(unit, 1, 2000), either(1, 2, 3, 10));
        base();
    }

    private void beginWild() {
        if (seldom(2)) {
            masses(among(0, 1000000000), among(0, 1000000000));
        }
        int places = among(0, 6);
        for (int i = 0; i < places; i++) {
            round(random.nextBoolean(), among(-20000, 20000), among(-20000, 20000));
        }
        int sights = among(2, 4);
        for (int i = 0; i < sights; i++) {
            sight(i < 2 ? 0 : among(0, 2), among(-300, 300), among(-1000, 1000),
                among(-1000, 1000), among(0, 1000));
        }
        grid(among(1, 20000), among(1, 2000), among(1, 10));
        base();
    }

    private void change() {
        switch (random.nextInt(9)) {
            case 0 -> round(random.nextBoolean(), seldom(4) ? odd() : among(-3000, 3000),
                seldom(4) ? odd() : among(-3000, 3000));
            case 1 -> masses(seldom(3) ? odd() : among(0, 30000000), seldom(3) ? odd() : 0);
            case 2 -> sight(seldom(5) ? odd() : among(0, 2), step(),
                seldom(6) ? odd() : among(-2, 2), seldom(6) ? odd() : among(-2, 2),
                seldom(6) ? odd() : among(0, 1000));
            case 3, 4 -> {
                int s = sightNumber();
                int miss = seldom(5) ? odd() : seldom(2) ? 1000 : among(0, 1000);
                due("miss(" + s + ", " + miss + ")", bench.miss(s, miss), plain.miss(s, miss));
            }
            case 5 -> {
                due("unsee()", bench.unsee(), plain.unsee());
                met("kept behind unsee", plain.all(3) > 0);
            }
            case 6 -> grid(seldom(4) ? odd() : among(100, 2000), seldom(4) ? odd() : among(1, 500),
                seldom(4) ? odd() : among(1, 10));
            case 7 -> base();
            default -> keep();
        }
    }

    private void round(boolean isPlanet, int x, int y) {
        due("round(" + isPlanet + ", " + x + ", " + y + ")", bench.round(isPlanet, x, y),
            plain.round(isPlanet, x, y));
    }

    private void masses(int sun, int other) {
        due("masses(" + sun + ", " + other + ")", bench.masses(sun, other), plain.masses(sun, other));
    }

    private void sight(int kind, int step, int a, int b, int miss) {
        due("sight(" + kind + ", " + step + ", " + a + ", " + b + ", " + miss + ")",
            bench.sight(kind, step, a, b, miss), plain.sight(kind, step, a, b, miss));
    }

    private void grid(int from, int by, int n) {
        due("grid(" + from + ", " + by + ", " + n + ")", bench.grid(from, by, n), plain.grid(from, by, n));
    }

    private void base() {
        int a = seldom(8) ? sightNumber() : 0;
        int b = seldom(8) ? sightNumber() : 1;
        boolean want = plain.base(a, b);
        due("base(" + a + ", " + b + ")", bench.base(a, b), want);
        met("refused base", !want);
    }

    private void keep() {
        int want = plain.keep();
        due("keep()", bench.keep(), want);
        met("kept", want > 0);
        met("kept 0", want == 0);
        met("kept 100", want == 100);
    }

    private void ask() {
        switch (random.nextInt(13)) {
            case 0 -> askWay();
            case 1, 2 -> askAt();
            case 3 -> askFits();
            case 4 -> {
                int s = sightNumber();
                due("fitting(" + s + ")", bench.fitting(s), plain.fitting(s));
            }
            case 5 -> {
                int s = sightNumber();
                int want = plain.without(s);
                due("without(" + s + ")", bench.without(s), want);
                met("without more", want > plain.all(3) && plain.all(3) >= 0);
            }
            case 6 -> askPatch();
            case 7 -> askTells();
            case 8 -> askPeriod();
            case 9 -> {
                boolean greatest = random.nextBoolean();
                int want = plain.span(greatest);
                due("span(" + greatest + ")", bench.span(greatest), want);
                met("span", want > 0);
            }
            case 10 -> askNear();
            case 11 -> due("nearest()", bench.nearest(), plain.nearest());
            default -> {
                int what = among(-1, 4);
                due("all(" + what + ")", bench.all(what), plain.all(what));
            }
        }
    }

    private void askWay() {
        int k = keptNumber();
        int what = seldom(20) ? odd() : among(-1, 7);
        due("way(" + k + ", " + what + ")", bench.way(k, what), plain.way(k, what));
    }

    private void askAt() {
        int k = keptNumber();
        int step = step();
        for (int what = -1; what <= 4; what++) {
            int want = plain.at(k, step, what);
            due("at(" + k + ", " + step + ", " + what + ")", bench.at(k, step, what), want);
            met("lost", what == 0 && want == -1000000 && plain.all(3) > 0);
            met("speed", what == 3 && want != -1000000);
        }
    }

    private void askFits() {
        int k = keptNumber();
        int s = sightNumber();
        int want = plain.fits(k, s);
        due("fits(" + k + ", " + s + ")", bench.fits(k, s), want);
        met("fits", want == 1);
        met("fits not", want == 0);
    }

    private void askPatch() {
        int step = step();
        int want = plain.patch(step);
        due("patch(" + step + ")", bench.patch(step), want);
        int left = plain.side(step, true);
        int right = plain.side(step, false);
        due("side(" + step + ", true)", bench.side(step, true), left);
        due("side(" + step + ", false)", bench.side(step, false), right);
        met("patch open", want == -2);
        met("patch wide", want > 0);
        met("patch 0", want == 0);
        met("side none", want == -2 && left == -1);
        met("side and open", want == -2 && left >= 0 && right >= 0);
    }

    private void askTells() {
        int from = step();
        int to = seldom(10) ? step() : from + among(0, 25);
        // All pairs for all steps would take the plain bench too long.
        if (plain.all(3) > 30 && (long) to - from > 30) {
            return;
        }
        int want = plain.tells(from, to);
        due("tells(" + from + ", " + to + ")", bench.tells(from, to), want);
        met("tells", want != -1000 && want != from);
    }

    private void askPeriod() {
        int k = keptNumber();
        int want = plain.period(k);
        due("period(" + k + ")", bench.period(k), want);
        met("period", want > 0);
    }

    private void askNear() {
        int k = seldom(3) ? -1 : keptNumber();
        int from = step();
        int to = seldom(3) ? step() : from + among(0, 100);
        long want = plain.near(k, from, to);
        due("near(" + k + ", " + from + ", " + to + ")", bench.near(k, from, to), want);
        due("nearest()", bench.nearest(), plain.nearest());
        met("near", want > 0);
    }
}
