/** Terms I: the edges of tables, places, masses, pulls and steps, and when a comet is lost. */
public final class EdgesOfPlacesTest {
    private static final int LOST = -1000000;

    public static void main(String[] args) {
        earthGoesRound();
        planetGoesRound();
        aFortyFirstPlace();
        placesAtTheEdge();
        tablesWithoutAny();
        massesAtTheEdge();
        massesAtFirst();
        rootIsNotAbove();
        rootsNextToSquares();
        pullsAreCutTowardsZero();
        noPullFromNoDistance();
        strongestPulls();
        planetOfTheStepThatComes();
        backIsOnBackwards();
        lostBelowHundred();
        lostFarOut();
        lostFartherOn();
        Due.end("EdgesOfPlacesTest");
    }

    private static int mod(int step, int count) {
        int rest = step % count;
        return rest < 0 ? rest + count : rest;
    }

    /** The earth's place at a step is seen by how far a way is from it that goes straight. */
    private static void earthGoesRound() {
        for (int count = 1; count <= 40; count++) {
            CometBench x = new CometBench();
            x.masses(0, 0);
            for (int i = 0; i < count; i++) {
                Due.same("place " + i, x.round(false, 100 + i, 200 + i * i), i + 1);
            }
            x.sight(0, 0, 1, 0, 0);
            x.sight(0, 1, 1, 0, 0);
            x.grid(1000, 1, 1);
            x.base(0, 1);
            Due.same(count + " places: keep", x.keep(), 1);
            int speed = count == 1 ? 0 : 1;
            int[] steps = {-300, -299, -41, -40, -39, -count - 1, -count, -count + 1, -2, -1, 0, 1,
                count - 1, count, count + 1, 39, 40, 41, 299, 300};
            for (int step : steps) {
                int i = mod(step, count);
                long p = 1100 + speed * step - (100 + i);
                long q = 200 + speed * step - (200 + i * i);
                Due.same(count + " places: near at " + step, x.near(0, step, step), p * p + q * q);
            }
        }
    }

    /**
     * A comet at rest at 5000, 0, that a planet throws by 100 from 5100, 0 at one place of its
     * table; from all other places it does not pull.
     */
    private static CometBench resting(int count, int place) {
        CometBench x = new CometBench();
        x.masses(0, 1000000);
        x.round(false, 4000, 0);
        x.sight(0, 0, 1, 0, 0);
        x.sight(0, 1, 1, 0, 0);
        x.grid(1000, 1, 1);
        x.base(0, 1);
        for (int i = 0; i < count; i++) {
            x.round(true, i == place ? 5100 : -20000, i == place ? 0 : -20000);
        }
        return x;
    }

    private static void planetGoesRound() {
        for (int count = 1; count <= 40; count++) {
            for (int place : new int[] {0, 1, count / 2, count - 1}) {
                if (place >= count) {
                    continue;
                }
                CometBench x = resting(count, place);
                String scene = "the planet's place " + place + " of " + count;
                Due.same(scene + ": keep", x.keep(), 1);
                // The step 0 is not pulled at on the way on, but is on the way back.
                int on = place == 0 ? count : place;
                int back = place == 0 ? 0 : place - count;
                Scenes.state(scene, x, 0, on - 1, 5000, 0, 0, 0);
                Scenes.state(scene, x, 0, on, 5000, 0, 100, 0);
                Due.same(scene + ": thrown on", x.at(0, on + 1, 0), 5100);
                Scenes.state(scene, x, 0, back, 5000, 0, 0, 0);
                Scenes.state(scene, x, 0, back - 1, 5100, 0, -100, 0);
            }
        }
    }

    private static void aFortyFirstPlace() {
        CometBench x = Scenes.begun(0, 1500, 0, 0, 0, 39, 7, 0);
        Due.same("a 41st place of the earth", x.round(false, 1, 1), -1);
        Due.same("the planet's table is another one", x.round(true, -20000, -20000), 1);
        x.keep();
        Due.same("the last place", x.near(0, 39, 39), 1493 * 1493);
        Due.same("the first one again", x.near(0, 40, 40), 1000 * 1000);
        Due.same("the last place ahead of the first one", x.near(0, -1, -1), 1493 * 1493);

        CometBench y = resting(40, 39);
        Due.same("a 41st place of the planet", y.round(true, 5100, 0), -1);
        Due.same("the earth's table is another one", y.round(false, 4000, 0), 2);
        y.keep();
        Due.same("pulled by the last place", y.at(0, 39, 2), 100);
        Due.same("not by the first one again", y.at(0, 40, 2), 100);
    }

    private static void placesAtTheEdge() {
        int[][] can = {{20000, 0}, {-20000, 0}, {0, 20000}, {0, -20000}, {20000, -20000},
            {-20000, 20000}};
        int[][] cannot = {{20001, 0}, {-20001, 0}, {0, 20001}, {0, -20001}, {20001, -20001},
            {2147483647, 0}, {-2147483648, 0}, {0, 2147483647}, {0, -2147483648}};
        for (boolean isPlanet : new boolean[] {false, true}) {
            CometBench x = new CometBench();
            for (int i = 0; i < can.length; i++) {
                Due.same("a place at the edge", x.round(isPlanet, can[i][0], can[i][1]), i + 1);
            }
            for (int[] place : cannot) {
                Due.same("a place beyond it", x.round(isPlanet, place[0], place[1]), -1);
            }
            Due.same("only the others count", x.all(isPlanet ? 2 : 1), can.length);
        }
        CometBench y = Scenes.begun(0, 1500, 0, 0, 0, 7, 20000, -20000, 8, -20000, 20000);
        y.keep();
        Due.same("right at the edge", y.near(0, 7, 7), 18500L * 18500 + 20000L * 20000);
        Due.same("left at the edge", y.near(0, 8, 8), 21500L * 21500 + 20000L * 20000);
        CometBench z = Scenes.begun(0, 19900, 0, 0, -19900);
        z.masses(0, 1000000);
        z.round(true, 20000, -20000);
        z.keep();
        // 100 across and 100 down: 1000000 * 100 / (20000 * 141) = 35.
        Scenes.state("the planet at the edge", z, 0, 1, 19900, -19900, 35, -19935);
    }

    private static void tablesWithoutAny() {
        CometBench x = Scenes.cross(1000, 500);
        Due.same("no earth's table: keep", x.keep(), 4);
        Scenes.state("no earth's table", x, 0, 0, 1000, 0, -100, 100);
        for (int step : new int[] {-300, -1, 0, 1, 300}) {
            long p = 1000 - 100 * step;
            long q = 100 * step;
            Due.same("the earth at 0, 0: near at " + step, x.near(0, step, step), p * p + q * q);
        }
        CometBench y = Scenes.begun(0, 1000, 0, 0, 0);
        y.masses(0, 7000000);
        y.keep();
        Scenes.state("no planet's table", y, 0, 1, 1000, 0, -7, 0);
        Scenes.state("no planet's table", y, 0, -1, 993, 0, 7, 0);
    }

    private static void massesAtTheEdge() {
        int[][] can = {{0, 0}, {0, 1000000000}, {1000000000, 0}, {1000000000, 1000000000}, {1, 1}};
        int[][] cannot = {{-1, 0}, {0, -1}, {1000000001, 0}, {0, 1000000001}, {-1, -1},
            {2147483647, 0}, {0, 2147483647}, {-2147483648, 0}, {0, -2147483648}};
        for (int[] pair : can) {
            CometBench x = Scenes.begun(0, 1000, 0, 0, 0);
            x.round(true, 1000, 1000);
            Due.same("masses " + pair[0] + ", " + pair[1], x.masses(pair[0], pair[1]), true);
            for (int[] wrong : cannot) {
                Due.same("masses " + wrong[0] + ", " + wrong[1], x.masses(wrong[0], wrong[1]), false);
            }
            x.keep();
            // Both are 1000 away: a thousandth of a thousandth of the mass.
            Scenes.state("pulled by " + pair[0] + ", " + pair[1], x, 0, 1, 1000, 0,
                -pair[0] / 1000000, pair[1] / 1000000);
        }
    }

    private static void massesAtFirst() {
        CometBench x = Scenes.oneDay(1000, 0);
        x.round(true, 1000, 1);
        Due.same("masses at first: keep", x.keep(), 1);
        Scenes.state("10000000 and 0", x, 0, 1, 1000, 0, -10, 0);
        Due.same("one mass less of the sun", x.masses(9999999, 0), true);
        x.keep();
        Scenes.state("9999999 and 0", x, 0, 1, 1000, 0, -9, 0);
        x.masses(0, 1);
        x.keep();
        Scenes.state("0 and 1", x, 0, 1, 1000, 0, 0, 1);
    }

    /** The speed that a planet of a mass, that is p, q off, gives to a comet at rest. */
    private static void thrown(int mass, int p, int q, int u, int v) {
        CometBench x = Scenes.begun(0, 5000, 5000, 0, 0);
        x.masses(0, mass);
        x.round(true, -20000, -20000);
        x.round(true, 5000 + p, 5000 + q);
        x.round(true, -20000, -20000);
        String scene = "mass " + mass + " from " + p + ", " + q;
        Due.same(scene + ": keep", x.keep(), 1);
        Scenes.state(scene, x, 0, 0, 5000, 5000, 0, 0);
        Scenes.state(scene, x, 0, 1, 5000, 5000, u, v);
        Scenes.state(scene, x, 0, -1, 5000, 5000, 0, 0);
        // Back from step 1, that pull is taken away again ahead of the place.
        Scenes.state(scene, x, 0, -2, 5000, 5000, 0, 0);
        Scenes.state(scene, x, 0, -3, 5000 + u, 5000 + v, -u, -v);
    }

    private static void rootIsNotAbove() {
        // The squares 8, 9 and 10 have the roots 2, 3 and 3; 24, 25 and 26 have 4, 5 and 5.
        thrown(1600, 2, 2, 200, 200);
        thrown(2700, 3, 0, 300, 0);
        thrown(3000, 3, 1, 300, 100);
        thrown(1, 1, 0, 1, 0);
        thrown(2, 1, 1, 1, 1);
        thrown(125000, 3, 4, 3000, 4000);
        thrown(130000, 5, 1, 5000, 1000);
        // 1000 * 1000 + 999 * 999 and 2 * 999 more to the next square: the root of it is 1413.
        thrown(1000000000, 1000, 999, 354, 353);
    }

    private static long root(long square) {
        return java.math.BigInteger.valueOf(square).sqrt().longValueExact();
    }

    /** All p, q whose square is one of a whole number, or 1 less, or 1 more. */
    private static void rootsNextToSquares() {
        int met = 0;
        for (int p = 1; p <= 150; p++) {
            for (int q = 0; q <= p; q++) {
                long s = (long) p * p + (long) q * q;
                long r = root(s);
                if (s > r * r + 1 && s < r * r + 2 * r) {
                    continue;
                }
                met++;
                CometBench x = Scenes.begun(0, 5000, 5000, 0, 0);
                x.masses(0, 1000000000);
                x.round(true, 5000 + p, 5000 - q);
                x.keep();
                Due.same("from " + p + ", " + -q + ": across", x.at(0, 1, 2), 1000000000L * p / (s * r));
                Due.same("from " + p + ", " + -q + ": down", x.at(0, 1, 3), 1000000000L * -q / (s * r));
            }
        }
        Due.same("some of all three", met > 300, true);
    }

    private static void pullsAreCutTowardsZero() {
        thrown(7, 2, 0, 1, 0);
        thrown(7, -2, 0, -1, 0);
        thrown(7, 0, 2, 0, 1);
        thrown(7, 0, -2, 0, -1);
        thrown(3, 2, 0, 0, 0);
        thrown(3, -2, 0, 0, 0);
        thrown(4, -2, 0, -1, 0);
        // Of 10 and 5 over 5 * 2: cut each for itself.
        thrown(9, 2, 1, 1, 0);
        thrown(9, -2, -1, -1, 0);
        thrown(10, -2, -1, -2, -1);
        CometBench x = Scenes.begun(0, 1000, 0, 0, 0);
        x.masses(1900000, 1900000);
        x.keep();
        Scenes.state("1.9 of the sun and 1.9 of the planet are 2", x, 0, 1, 1000, 0, -2, 0);
        CometBench y = Scenes.begun(0, -1000, 0, 0, 0);
        y.masses(1900000, 1900000);
        y.keep();
        Scenes.state("and so the other way", y, 0, 1, -1000, 0, 2, 0);
    }

    private static void noPullFromNoDistance() {
        thrown(1000000000, 0, 0, 0, 0);
        CometBench x = Scenes.begun(0, 1000, 0, 0, 0);
        x.masses(10000000, 1000000000);
        x.round(true, 1000, 0);
        Due.same("the planet on the comet: keep", x.keep(), 1);
        Scenes.state("only the sun pulls", x, 0, 1, 1000, 0, -10, 0);
        Scenes.state("only the sun pulls back", x, 0, -1, 990, 0, 10, 0);
    }

    private static void strongestPulls() {
        int[][] sides = {{1, 0}, {-1, 0}, {0, 1}, {0, -1}};
        for (int[] d : sides) {
            CometBench x = Scenes.begun(0, 5000, 5000, 0, 0);
            x.masses(0, 1000000000);
            x.round(true, 5000 + d[0], 5000 + d[1]);
            Due.same("the strongest: keep", x.keep(), 1);
            Scenes.state("the strongest", x, 0, 1, 5000, 5000, d[0] * 1000000000, d[1] * 1000000000);
            Scenes.state("lost behind it", x, 0, 2, LOST, LOST, LOST, LOST);
            Scenes.state("where it begins", x, 0, 0, 5000, 5000, 0, 0);
            Scenes.state("lost ahead of it", x, 0, -1, LOST, LOST, LOST, LOST);
        }
        CometBench both = Scenes.begun(0, 100, 0, 0, 0);
        both.masses(1000000000, 1000000000);
        both.round(true, 99, 0);
        Due.same("the strongest of both: keep", both.keep(), 1);
        Scenes.state("the strongest of both", both, 0, 1, 100, 0, -1000100000, 0);
        Due.same("thrown far out", both.at(0, 2, 0), LOST);
    }

    private static void planetOfTheStepThatComes() {
        CometBench x = Scenes.begun(-41, 5000, 0, 0, 0);
        x.masses(0, 1000000);
        // The place of the steps -40, 0 and 40 throws it: -40 is the one that comes.
        Scenes.planet(x, 40, 0, 5100);
        Due.same("a planet below 0: keep", x.keep(), 1);
        Scenes.state("a planet below 0", x, 0, -41, 5000, 0, 0, 0);
        Scenes.state("a planet below 0", x, 0, -40, 5000, 0, 100, 0);
        Scenes.state("a planet below 0", x, 0, -39, 5100, 0, 100, 0);
        Scenes.state("not earlier", x, 0, -80, 5000, 0, 0, 0);
        Scenes.state("thrown once more, back", x, 0, -81, 5100, 0, -100, 0);
    }

    private static CometBench pulled(int step, int x, int y, int u, int v) {
        CometBench bench = Scenes.begun(step, x, y, u, v);
        bench.masses(20000000, 3000000);
        for (int i = 0; i < 7; i++) {
            bench.round(true, 1500 - 300 * i, -900 + 70 * i * i);
        }
        return bench;
    }

    private static void backIsOnBackwards() {
        CometBench x = pulled(0, 3000, 500, -20, 70);
        Due.same("there: keep", x.keep(), 1);
        for (int step : new int[] {-30, -7, -1, 1, 8, 30}) {
            CometBench y = pulled(step, x.at(0, step, 0), x.at(0, step, 1), x.at(0, step, 2),
                x.at(0, step, 3));
            Due.same("and back: keep", y.keep(), 1);
            for (int t = -30; t <= 30; t += 5) {
                Scenes.state("begun at " + step, y, 0, t, x.at(0, t, 0), x.at(0, t, 1),
                    x.at(0, t, 2), x.at(0, t, 3));
            }
        }
        Due.same("that is no straight way", x.at(0, 30, 2) != x.at(0, -30, 2), true);
    }

    private static void lostBelowHundred() {
        int[][] there = {{100, 0}, {-100, 0}, {0, 100}, {0, -100}, {60, 80}, {-80, 60}, {99, 15},
            {71, 71}, {100, 99}};
        int[][] lost = {{99, 0}, {-99, 0}, {0, 99}, {0, -99}, {60, 79}, {-80, -59}, {99, 14},
            {71, 70}, {0, 0}, {1, 0}};
        for (int[] place : there) {
            passing(place, false);
        }
        for (int[] place : lost) {
            passing(place, true);
        }
    }

    /** Comes past a place at step 2, and at step -2 on another way, by 400 a step. */
    private static void passing(int[] place, boolean isLost) {
        int x = place[0];
        int y = place[1];
        CometBench on = Scenes.begun(0, x - 800, y, 400, 0);
        String scene = "past " + x + ", " + y;
        Due.same(scene + ": keep", on.keep(), 1);
        Scenes.state(scene + ", ahead of it", on, 0, 1, x - 400, y, 400, 0);
        Due.same(scene + ", there", on.at(0, 2, 0), isLost ? LOST : x);
        Due.same(scene + ", behind it", on.at(0, 3, 0), isLost ? LOST : x + 400);
        Due.same(scene + ", the other way", on.at(0, -40, 0), x - 800 - 16000);
        CometBench back = Scenes.begun(0, x + 800, y, 400, 0);
        Due.same(scene + " back: keep", back.keep(), 1);
        Scenes.state(scene + " back, ahead of it", back, 0, -1, x + 400, y, 400, 0);
        Due.same(scene + " back, there", back.at(0, -2, 1), isLost ? LOST : y);
        Due.same(scene + " back, behind it", back.at(0, -3, 0), isLost ? LOST : x - 400);
        Due.same(scene + " back, the other way", back.at(0, 40, 0), x + 800 + 16000);
    }

    private static void lostFarOut() {
        int[][] sides = {{1, 0}, {-1, 0}, {0, 1}, {0, -1}};
        for (int[] d : sides) {
            for (int beyond = 0; beyond <= 1; beyond++) {
                int begin = 1000 + beyond;
                for (int sign = -1; sign <= 1; sign += 2) {
                    // Both nights are on the way out: begun at step 0, or back from step -1 on.
                    int early = sign < 0 ? 990 : 0;
                    CometBench x = Scenes.begun(sign < 0 ? -1 : 0, d[0] * (begin + early),
                        d[1] * (begin + early), sign * d[0] * 990, sign * d[1] * 990);
                    String scene = "out to " + (100000 + beyond) + " along " + d[0] + ", " + d[1];
                    Due.same(scene + ": keep", x.keep(), 1);
                    Due.same(scene + ", ahead of it", x.at(0, sign * 99, 0), d[0] * (begin + 98010));
                    Due.same(scene + ", across", x.at(0, sign * 100, 0),
                        beyond == 1 ? LOST : d[0] * 100000);
                    Due.same(scene + ", down", x.at(0, sign * 100, 1),
                        beyond == 1 ? LOST : d[1] * 100000);
                    Due.same(scene + ", behind it", x.at(0, sign * 101, 0), LOST);
                }
            }
        }
        // Into the corners: both may be at the edge, neither may be beyond it.
        int[][] corners = {{1000, 1000, 100000}, {1001, 1000, LOST}, {1000, 1001, LOST}};
        for (int[] c : corners) {
            CometBench x = Scenes.begun(0, c[0], c[1], 990, 990);
            x.keep();
            Due.same("a corner from " + c[0] + ", " + c[1], x.at(0, 100, 0), c[2]);
            CometBench y = Scenes.begun(-1, -c[0] - 990, -c[1] - 990, 990, 990);
            y.keep();
            Due.same("a corner from -" + c[0] + ", -" + c[1], y.at(0, -100, 1),
                c[2] == LOST ? LOST : -100000);
        }
    }

    private static void lostFartherOn() {
        // Past the sun's place at step 2, and out again: lost from there on to the last step.
        CometBench x = Scenes.begun(0, -200, 0, 100, 0);
        Due.same("through the sun: keep", x.keep(), 1);
        for (int step : new int[] {2, 3, 4, 50, 300}) {
            Scenes.state("lost from 2 on", x, 0, step, LOST, LOST, LOST, LOST);
        }
        Scenes.state("there at 1", x, 0, 1, -100, 0, 100, 0);
        Scenes.state("there on the other way", x, 0, -300, -30200, 0, 100, 0);
        CometBench y = Scenes.begun(0, 200, 0, 100, 0);
        y.keep();
        for (int step : new int[] {-2, -3, -4, -50, -300}) {
            Scenes.state("lost from -2 on", y, 0, step, LOST, LOST, LOST, LOST);
        }
        Scenes.state("there at -1", y, 0, -1, 100, 0, 100, 0);
        Scenes.state("there on the other way", y, 0, 300, 30200, 0, 100, 0);
        // The last step of all: there at 300, and what comes behind that does not matter.
        CometBench last = Scenes.begun(0, 1000, 0, 330, 0);
        last.keep();
        Scenes.state("just there at 300", last, 0, 300, 100000, 0, 330, 0);
        CometBench first = Scenes.begun(0, -1000, 0, 330, 0);
        first.keep();
        Scenes.state("just there at -300", first, 0, -300, -100000, 0, 330, 0);
    }
}
