/**
 * A bench on which a comet's way is worked out by whole numbers: sights of nights, tails and
 * annals from an earth that goes round, the ways that fit them, and what those ways tell.
 */
public final class CometBench {
    /** None; refused. */
    public static final int NONE = -1;

    private static final int NO_VALUE = -1000000;
    private static final int NO_STEP = -1000;
    private static final int OPEN = -2;

    private static final int FIRST_STEP = -300;
    private static final int LAST_STEP = 300;
    private static final int MOST_PLACES = 40;
    private static final int FARTHEST_PLACE = 20000;
    private static final int MOST_MASS = 1000000000;
    private static final int MOST_SIGHTS = 12;
    private static final int LONGEST_DIRECTION = 1000;
    private static final int MOST_MISS = 1000;
    private static final int MOST_FROM = 20000;
    private static final int MOST_BY = 2000;
    private static final int MOST_DISTANCES = 10;
    private static final int MOST_WAYS = MOST_DISTANCES * MOST_DISTANCES;
    private static final int AIMINGS = 3;
    private static final int LOST_NEAR = 100;
    private static final int LOST_FAR = 100000;
    private static final long WIDEST = 2147483647L;
    private static final long LOW_HALF = 0xffffffffL;

    private static final int NIGHT = 0;
    private static final int TAIL = 1;
    private static final int ANNAL = 2;

    private final Sky now = new Sky();
    private final Sky then = new Sky();
    private final Sight[] sights = new Sight[MOST_SIGHTS];
    private int sightCount = 0;
    private int earlier = NONE;
    private int later = NONE;
    private int gridFrom = 500;
    private int gridBy = 500;
    private int gridCount = 6;
    private final Way[] kept = new Way[MOST_WAYS];
    private int keptCount = NONE;
    private int nearestStep = NO_STEP;
    private final Comet comet = new Comet();
    private final Way aimed = new Way();
    private final Patch seen = new Patch();

    /** Empty tables, no sights, nothing kept. */
    public CometBench() {
        for (int i = 0; i < sights.length; i++) {
            sights[i] = new Sight();
        }
    }

    /** A place more of the earth's or the planet's table: how many there are. */
    public int round(boolean planet, int x, int y) {
        if (!isWithin(x, -FARTHEST_PLACE, FARTHEST_PLACE)
                || !isWithin(y, -FARTHEST_PLACE, FARTHEST_PLACE)) {
            return NONE;
        }
        return planet ? now.planet.grow(x, y) : now.earth.grow(x, y);
    }

    /** The masses of the sun and the planet from now on. */
    public boolean masses(int sun, int planet) {
        if (!isWithin(sun, 0, MOST_MASS) || !isWithin(planet, 0, MOST_MASS)) {
            return false;
        }
        now.sunMass = sun;
        now.planetMass = planet;
        return true;
    }

    /** A sight more: its number. */
    public int sight(int kind, int step, int a, int b, int miss) {
        if (sightCount >= sights.length || !isWithin(kind, NIGHT, ANNAL) || !isStep(step)
                || !isDirection(a, b) || !isWithin(miss, 0, MOST_MISS)) {
            return NONE;
        }
        Sight made = sights[sightCount];
        if (made == null) {
            return NONE;
        }
        made.kind = kind;
        made.step = step;
        made.a = a;
        made.b = b;
        made.miss = miss;
        sightCount++;
        return sightCount - 1;
    }

    /** Another miss for a sight: what it was. */
    public int miss(int sight, int miss) {
        Sight changed = sightOf(sight);
        if (changed == null || !isWithin(miss, 0, MOST_MISS)) {
            return NONE;
        }
        int before = changed.miss;
        changed.miss = miss;
        return before;
    }

    /** The last sight goes, and the base with it if it is of it: how many are left. */
    public int unsee() {
        if (sightCount < 1) {
            return NONE;
        }
        sightCount--;
        if (isOfBase(sightCount)) {
            earlier = NONE;
            later = NONE;
        }
        return sightCount;
    }

    /** The distances that ways are tried for. */
    public boolean grid(int from, int by, int n) {
        if (!isWithin(from, 1, MOST_FROM) || !isWithin(by, 1, MOST_BY)
                || !isWithin(n, 1, MOST_DISTANCES)) {
            return false;
        }
        gridFrom = from;
        gridBy = by;
        gridCount = n;
        return true;
    }

    /** The two nights that ways are laid through, in any order. */
    public boolean base(int a, int b) {
        Sight one = sightOf(a);
        Sight other = sightOf(b);
        if (one == null || other == null || one.kind != NIGHT || other.kind != NIGHT
                || one.step == other.step) {
            return false;
        }
        earlier = one.step < other.step ? a : b;
        later = one.step < other.step ? b : a;
        return true;
    }

    /** Finds the ways that fit all nights and tails: how many. */
    public int keep() {
        if (!hasBase()) {
            return NONE;
        }
        then.become(now);
        keptCount = search(NONE, true);
        return keptCount;
    }

    /** How a kept way begins. */
    public int way(int k, int what) {
        Way told = keptWay(k);
        if (told == null) {
            return NO_VALUE;
        }
        switch (what) {
            case 0: return told.earlierK;
            case 1: return told.laterK;
            case 2: return told.x;
            case 3: return told.y;
            case 4: return told.u;
            case 5: return told.v;
            case 6: return told.step;
            default: return NO_VALUE;
        }
    }

    /** Place and speed of a kept way at a step. */
    public int at(int k, int step, int what) {
        Way told = tracedWay(k);
        if (told == null || !told.isThere(step)) {
            return NO_VALUE;
        }
        switch (what) {
            case 0: return told.xAt(step);
            case 1: return told.yAt(step);
            case 2: return told.xAt(step + 1) - told.xAt(step);
            case 3: return told.yAt(step + 1) - told.yAt(step);
            default: return NO_VALUE;
        }
    }

    /** Whether a kept way fits a sight. */
    public int fits(int k, int sight) {
        Way asked = tracedWay(k);
        Sight seenThere = sightOf(sight);
        if (asked == null || seenThere == null) {
            return NONE;
        }
        return isFitting(asked, seenThere) ? 1 : 0;
    }

    /** How many kept ways fit a sight. */
    public int fitting(int sight) {
        Sight seenThere = sightOf(sight);
        if (seenThere == null) {
            return NONE;
        }
        traceAll();
        int count = 0;
        for (int k = 0; k < keptCount; k++) {
            Way asked = keptWay(k);
            if (asked != null && isFitting(asked, seenThere)) {
                count++;
            }
        }
        return count;
    }

    /** How many ways would be kept now without one sight. */
    public int without(int sight) {
        if (!hasBase() || sightOf(sight) == null || isOfBase(sight)) {
            return NONE;
        }
        return search(sight, false);
    }

    // ---- the patch

    /** How wide the patch is at a step. */
    public int patch(int step) {
        if (!isStep(step)) {
            return NONE;
        }
        traceAll();
        return widthAt(step);
    }

    /** The kept way at the left or right side of the patch. */
    public int side(int step, boolean left) {
        if (!isStep(step)) {
            return NONE;
        }
        traceAll();
        look(step);
        return seen.wayOf(seen.edge(left));
    }

    /** The step at which the patch is widest. */
    public int tells(int from, int to) {
        if (!isStep(from) || !isStep(to)) {
            return NO_STEP;
        }
        traceAll();
        int best = NO_STEP;
        long widest = NONE;
        for (int step = from; step <= to; step++) {
            long width = widthAt(step);
            if (width == OPEN) {
                width = WIDEST + 1;
            }
            if (width > widest) {
                widest = width;
                best = step;
            }
        }
        return best;
    }

    // ---- periods, near passes

    /** The period of a kept way. */
    public int period(int k) {
        Way asked = tracedWay(k);
        return asked == null ? NONE : asked.turnTime();
    }

    /** The least or greatest period of all kept ways. */
    public int span(boolean greatest) {
        if (keptCount < 1) {
            return NONE;
        }
        traceAll();
        int best = 0;
        for (int k = 0; k < keptCount; k++) {
            Way asked = keptWay(k);
            int time = asked == null ? 0 : asked.turnTime();
            if (time == 0) {
                return 0;
            }
            if (k == 0 || (greatest ? time > best : time < best)) {
                best = time;
            }
        }
        return best;
    }

    /** The least square of a distance between the earth and a kept way, or any of them. */
    public long near(int k, int from, int to) {
        if (!isStep(from) || !isStep(to) || (k != NONE && tracedWay(k) == null)) {
            return NONE;
        }
        if (k == NONE) {
            traceAll();
        }
        int first = k == NONE ? 0 : k;
        int end = k == NONE ? keptCount : k + 1;
        long least = NONE;
        int where = NO_STEP;
        // Steps outside, ways inside: so the first least is at the least step.
        for (int step = from; step <= to; step++) {
            for (int n = first; n < end; n++) {
                long square = squareFromEarth(keptWay(n), step);
                if (square != NONE && (least == NONE || square < least)) {
                    least = square;
                    where = step;
                }
            }
        }
        if (least != NONE) {
            nearestStep = where;
        }
        return least;
    }

    /** The step of the latest near pass that was told. */
    public int nearest() {
        return nearestStep;
    }

    /** How many there are of what the bench holds. */
    public int all(int what) {
        switch (what) {
            case 0: return sightCount;
            case 1: return now.earth.count;
            case 2: return now.planet.count;
            case 3: return keptCount;
            default: return NONE;
        }
    }

    // ---- what the calls lean on

    private static boolean isWithin(int value, int least, int most) {
        return value >= least && value <= most;
    }

    private static boolean isStep(int step) {
        return isWithin(step, FIRST_STEP, LAST_STEP);
    }

    private static boolean isDirection(int a, int b) {
        return isWithin(a, -LONGEST_DIRECTION, LONGEST_DIRECTION)
                && isWithin(b, -LONGEST_DIRECTION, LONGEST_DIRECTION)
                && (a != 0 || b != 0);
    }

    private Sight sightOf(int number) {
        return number >= 0 && number < sightCount && number < sights.length
                ? sights[number] : null;
    }

    private boolean hasBase() {
        return sightOf(earlier) != null && sightOf(later) != null;
    }

    private boolean isOfBase(int number) {
        return number == earlier || number == later;
    }

    private Way keptWay(int k) {
        return k >= 0 && k < keptCount && k < kept.length ? kept[k] : null;
    }

    /** A kept way is stepped through all steps only once it is asked for what they tell. */
    private Way tracedWay(int k) {
        Way told = keptWay(k);
        if (told != null) {
            told.trace(then, comet);
        }
        return told;
    }

    private void traceAll() {
        for (int k = 0; k < keptCount; k++) {
            Way told = keptWay(k);
            if (told != null) {
                told.trace(then, comet);
            }
        }
    }

    /** Tries all two distances of the grid: how many ways fit all sights but the one left out. */
    private int search(int leftOut, boolean isForKeeping) {
        int count = 0;
        for (int i = 0; i < gridCount; i++) {
            for (int j = 0; j < gridCount; j++) {
                if (aim(i, j) && fitsAllBut(leftOut)) {
                    if (isForKeeping) {
                        store(count);
                    }
                    count++;
                }
            }
        }
        return count;
    }

    private void store(int k) {
        if (k < 0 || k >= kept.length) {
            return;
        }
        // A new row only where no earlier keep() has left one: the rows are used again.
        if (kept[k] == null) {
            kept[k] = new Way();
        }
        kept[k].become(aimed);
    }

    /**
     * Lays the way for two distances. False if it is lost at the later night: it is not aimed
     * anew then, so it can't fit that night and is never kept.
     */
    private boolean aim(int earlierK, int laterK) {
        Sight begin = sightOf(earlier);
        Sight end = sightOf(later);
        if (begin == null || end == null || end.step <= begin.step) {
            return false;
        }
        int between = end.step - begin.step;
        int endX = now.earth.xAt(end.step) + end.part(end.a, gridDistance(laterK));
        int endY = now.earth.yAt(end.step) + end.part(end.b, gridDistance(laterK));
        aimed.earlierK = earlierK;
        aimed.laterK = laterK;
        aimed.step = begin.step;
        aimed.x = now.earth.xAt(begin.step) + begin.part(begin.a, gridDistance(earlierK));
        aimed.y = now.earth.yAt(begin.step) + begin.part(begin.b, gridDistance(earlierK));
        aimed.u = (endX - aimed.x) / between;
        aimed.v = (endY - aimed.y) / between;
        for (int turn = 0; turn < AIMINGS; turn++) {
            comet.begin(aimed);
            comet.go(now, end.step);
            if (comet.isLost) {
                return false;
            }
            aimed.u += (int) ((endX - comet.x) / between);
            aimed.v += (int) ((endY - comet.y) / between);
        }
        return true;
    }

    private int gridDistance(int k) {
        return gridFrom + gridBy * k;
    }

    /** Annals don't count: only nights and tails decide what is kept. */
    private boolean fitsAllBut(int leftOut) {
        comet.begin(aimed);
        for (int i = 0; i < sightCount; i++) {
            Sight asked = sightOf(i);
            if (asked == null || i == leftOut || asked.kind == ANNAL) {
                continue;
            }
            // Stepping back undoes stepping on, so the comet goes from sight to sight.
            comet.go(now, asked.step);
            if (comet.isLost || !asked.takes(now.earth, comet.x, comet.y)) {
                return false;
            }
        }
        return true;
    }

    private boolean isFitting(Way asked, Sight seenThere) {
        int step = seenThere.step;
        return asked.isThere(step)
                && seenThere.takes(then.earth, asked.xAt(step), asked.yAt(step));
    }

    /** Lays the directions of all kept ways that aren't lost at a step into the patch. */
    private void look(int step) {
        int earthX = then.earth.xAt(step);
        int earthY = then.earth.yAt(step);
        seen.count = 0;
        for (int k = 0; k < keptCount; k++) {
            Way asked = keptWay(k);
            if (asked != null && asked.isThere(step)) {
                seen.take(k, asked.xAt(step) - earthX, asked.yAt(step) - earthY);
            }
        }
    }

    private int widthAt(int step) {
        look(step);
        return seen.width();
    }

    private long squareFromEarth(Way asked, int step) {
        if (asked == null || !asked.isThere(step)) {
            return NONE;
        }
        long p = asked.xAt(step) - then.earth.xAt(step);
        long q = asked.yAt(step) - then.earth.yAt(step);
        return p * p + q * q;
    }

    /** The greatest whole number whose square is not above p p + q q. */
    private static long length(long p, long q) {
        long square = p * p + q * q;
        // Never below the root and never far above it, so Newton's steps only go down to it.
        long root = (p < 0 ? -p : p) + (q < 0 ? -q : q);
        for (int i = 0; i < 64 && root > 0; i++) {
            long next = (root + square / root) / 2;
            if (next >= root) {
                return root;
            }
            root = next;
        }
        return root;
    }

    /** Places of a body that goes round, one a step, again and again. */
    private static final class Table {
        private final int[] xs = new int[MOST_PLACES];
        private final int[] ys = new int[MOST_PLACES];
        private int count = 0;

        int grow(int x, int y) {
            if (count < 0 || count >= MOST_PLACES) {
                return NONE;
            }
            xs[count] = x;
            ys[count] = y;
            count++;
            return count;
        }

        int xAt(int step) {
            return count < 1 || count > MOST_PLACES ? 0 : xs[Math.floorMod(step, count)];
        }

        int yAt(int step) {
            return count < 1 || count > MOST_PLACES ? 0 : ys[Math.floorMod(step, count)];
        }

        void become(Table other) {
            System.arraycopy(other.xs, 0, xs, 0, MOST_PLACES);
            System.arraycopy(other.ys, 0, ys, 0, MOST_PLACES);
            count = other.count;
        }
    }

    /** All that pulls at a comet, and where it is seen from. */
    private static final class Sky {
        private final Table earth = new Table();
        private final Table planet = new Table();
        private long sunMass = 10000000;
        private long planetMass = 0;

        void become(Sky other) {
            earth.become(other.earth);
            planet.become(other.planet);
            sunMass = other.sunMass;
            planetMass = other.planetMass;
        }
    }

    /** A direction in which a comet was seen at a step. */
    private static final class Sight {
        private int kind = NIGHT;
        private int step = 0;
        private int a = 0;
        private int b = 0;
        private int miss = 0;

        /** What a distance along the direction is across (side a) or down (side b). */
        int part(int side, int distance) {
            long whole = length(a, b);
            return whole < 1 ? 0 : (int) ((long) side * distance / whole);
        }

        boolean takes(Table earth, long x, long y) {
            long p = kind == TAIL ? x : x - earth.xAt(step);
            long q = kind == TAIL ? y : y - earth.yAt(step);
            long along = a * p + b * q;
            long aside = Math.abs(a * q - b * p);
            return along > 0 && 1000 * aside <= miss * along;
        }
    }

    /** A comet that is stepped there and back. */
    private static final class Comet {
        private long x = 0;
        private long y = 0;
        private long u = 0;
        private long v = 0;
        private int step = 0;
        private boolean isLost = false;

        void begin(Way way) {
            x = way.x;
            y = way.y;
            u = way.u;
            v = way.v;
            step = way.step;
            isLost = isOutside();
        }

        /** To a step, or to where it is lost on the way there. */
        void go(Sky sky, int target) {
            for (int i = step; i < target && !isLost; i++) {
                x += u;
                y += v;
                step++;
                isLost = isOutside();
                // One that is lost is never asked for its speed, and far out a pull could wrap.
                if (!isLost) {
                    pullAll(sky, 1);
                }
            }
            for (int i = step; i > target && !isLost; i--) {
                pullAll(sky, -1);
                x -= u;
                y -= v;
                step--;
                isLost = isOutside();
            }
        }

        private boolean isOutside() {
            return x < -LOST_FAR || x > LOST_FAR || y < -LOST_FAR || y > LOST_FAR
                    || x * x + y * y < (long) LOST_NEAR * LOST_NEAR;
        }

        private void pullAll(Sky sky, int sign) {
            pull(sky.sunMass, -x, -y, sign);
            if (sky.planetMass != 0) {
                pull(sky.planetMass, sky.planet.xAt(step) - x, sky.planet.yAt(step) - y, sign);
            }
        }

        private void pull(long mass, long p, long q, int sign) {
            long divisor = (p * p + q * q) * length(p, q);
            if (divisor != 0) {
                u += sign * (mass * p / divisor);
                v += sign * (mass * q / divisor);
            }
        }
    }

    /** A way as it begins, and once traced its places at all steps at which it isn't lost. */
    private static final class Way {
        private int earlierK = 0;
        private int laterK = 0;
        private int x = 0;
        private int y = 0;
        private int u = 0;
        private int v = 0;
        private int step = 0;
        private boolean isTraced = false;
        private int firstThere = 0;
        private int lastThere = NONE;
        private long[] places = null;

        void become(Way other) {
            earlierK = other.earlierK;
            laterK = other.laterK;
            x = other.x;
            y = other.y;
            u = other.u;
            v = other.v;
            step = other.step;
            isTraced = false;
        }

        /**
         * A place takes one long, x above y, and speeds are not held, being what a place lacks to
         * the next one: so all rows of many benches stay small. The step behind the last one is
         * traced, too, for the last speed.
         */
        void trace(Sky sky, Comet comet) {
            if (isTraced) {
                return;
            }
            isTraced = true;
            if (places == null) {
                places = new long[LAST_STEP - FIRST_STEP + 2];
            }
            firstThere = step;
            lastThere = step - 1;
            comet.begin(this);
            write(comet);
            for (int i = step; i <= LAST_STEP && !comet.isLost; i++) {
                lastThere = i;
                comet.go(sky, i + 1);
                write(comet);
            }
            comet.begin(this);
            for (int i = step - 1; i >= FIRST_STEP && !comet.isLost; i--) {
                comet.go(sky, i);
                write(comet);
                firstThere = comet.isLost ? i + 1 : i;
            }
        }

        private void write(Comet comet) {
            int index = comet.step - FIRST_STEP;
            if (places != null && index >= 0 && index < places.length) {
                places[index] = (comet.x << 32) | (comet.y & LOW_HALF);
            }
        }

        private long read(int when) {
            int index = when - FIRST_STEP;
            return places != null && index >= 0 && index < places.length ? places[index] : 0;
        }

        /** Whether a step can be and it is not lost there. */
        boolean isThere(int when) {
            return when >= firstThere && when <= lastThere;
        }

        int xAt(int when) {
            return (int) (read(when) >> 32);
        }

        int yAt(int when) {
            return (int) read(when);
        }

        private long squareFromSun(int when) {
            long p = xAt(when);
            long q = yAt(when);
            return p * p + q * q;
        }

        private boolean isPass(int when) {
            long here = squareFromSun(when);
            return here < squareFromSun(when - 1) && here <= squareFromSun(when + 1);
        }

        /** From the first pass of the sun to the second one; 0 without. */
        int turnTime() {
            int firstPass = 0;
            // The steps at which it isn't lost have no gap: step 0 and the one behind say all.
            for (int i = 1; i < LAST_STEP && isThere(0) && isThere(i + 1); i++) {
                if (isPass(i)) {
                    if (firstPass > 0) {
                        return i - firstPass;
                    }
                    firstPass = i;
                }
            }
            return 0;
        }
    }

    /** The directions from the earth in which ways are seen at one step. */
    private static final class Patch {
        private final int[] ways = new int[MOST_WAYS];
        private final long[] ps = new long[MOST_WAYS];
        private final long[] qs = new long[MOST_WAYS];
        private int count = 0;

        void take(int way, long p, long q) {
            if (count >= 0 && count < MOST_WAYS) {
                ways[count] = way;
                ps[count] = p;
                qs[count] = q;
                count++;
            }
        }

        private boolean isHeld(int i) {
            return i >= 0 && i < count && i < MOST_WAYS;
        }

        int wayOf(int i) {
            return isHeld(i) ? ways[i] : NONE;
        }

        /** Below 0 if the one is to the left of the other one, above 0 if to the right. */
        private long cross(int one, int other) {
            return isHeld(one) && isHeld(other) ? ps[one] * qs[other] - qs[one] * ps[other] : 0;
        }

        private int findFarther(int than, int sign) {
            for (int i = 0; i < count; i++) {
                if (sign * cross(i, than) < 0) {
                    return i;
                }
            }
            return NONE;
        }

        /** The first one than which none is farther on a side; NONE if there is always one. */
        int edge(boolean left) {
            int sign = left ? 1 : -1;
            // What was farther than one is often farther than the next: asked first, it saves
            // most of the search.
            int rival = 0;
            for (int i = 0; i < count; i++) {
                if (sign * cross(rival, i) < 0) {
                    continue;
                }
                rival = findFarther(i, sign);
                if (rival == NONE) {
                    return i;
                }
            }
            return NONE;
        }

        int width() {
            if (count < 1) {
                return NONE;
            }
            int leftOne = edge(true);
            int rightOne = edge(false);
            if (!isHeld(leftOne) || !isHeld(rightOne)) {
                return OPEN;
            }
            long along = ps[leftOne] * ps[rightOne] + qs[leftOne] * qs[rightOne];
            if (along <= 0) {
                return OPEN;
            }
            return (int) Math.min(WIDEST, 1000 * Math.abs(cross(leftOne, rightOne)) / along);
        }
    }
}
