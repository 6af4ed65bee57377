/** Counts and prints the answers that are not the ones due; each test runs in a machine of its own. */
final class Due {
    private static int asked = 0;
    private static int wrong = 0;

    private Due() {
    }

    static void same(String call, long got, long want) {
        asked++;
        if (got != want) {
            wrong++;
            if (wrong <= 50) {
                System.out.println(call + " answered " + got + ", due is " + want);
            }
        }
    }

    static void same(String call, boolean got, boolean want) {
        same(call, got ? 1L : 0L, want ? 1L : 0L);
    }

    /** Ends the test: with exit code 1 if an answer was wrong, or nothing was asked at all. */
    static void end(String test) {
        System.out.println(test + ": " + asked + " asked, " + wrong + " not as due");
        if (wrong != 0 || asked == 0) {
            System.exit(1);
        }
    }
}
