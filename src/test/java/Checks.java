/** Counts the answers that are not the ones due, and prints each. */
final class Checks {
    private static int checked = 0;
    private static int wrong = 0;

    private Checks() {
    }

    static void due(String call, long got, long want) {
        checked++;
        if (got != want) {
            wrong++;
            System.out.println(call + " answered " + got + ", due is " + want);
        }
    }

    static void accepted(String call, boolean got) {
        due(call, got ? 1 : 0, 1);
    }

    static void refused(String call, boolean got) {
        due(call, got ? 1 : 0, 0);
    }

    static boolean allRight() {
        return wrong == 0;
    }

    /** Ends the test: exit code 1 if an answer was wrong, or if nothing was looked at. */
    static void end() {
        System.out.println(checked + " answers looked at, " + wrong + " not as due");
        if (wrong != 0 || checked == 0) {
            System.exit(1);
        }
    }
}
