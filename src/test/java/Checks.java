/** Counts the answers that are not the ones due, and prints each. */
final class Checks {
    private static int checked = 0;
    private static int wrong = 0;
    private static String sentence = "";
    private static int checkedBefore = 0;

    private Checks() {
    }

    /** What is looked at from here on shows that this sentence of the document holds. */
    static void sentence(String words) {
        sentenceEnds();
        sentence = words;
        checkedBefore = checked;
    }

    /** Guards the tests themselves: a sentence for which nothing was looked at is not tested. */
    private static void sentenceEnds() {
        if (!sentence.isEmpty() && checked == checkedBefore) {
            wrong++;
            System.out.println("nothing was looked at for: " + sentence);
        }
    }

    static void due(String call, long got, long want) {
        checked++;
        if (got != want) {
            wrong++;
            String place = sentence.isEmpty() ? "" : "[" + sentence + "] ";
            System.out.println(place + call + " answered " + got + ", due is " + want);
        }
    }

    static void accepted(String call, boolean got) {
        due(call, got ? 1 : 0, 1);
    }

    static void refused(String call, boolean got) {
        due(call, got ? 1 : 0, 0);
    }

    static boolean allRight() {
        return wrong == 0;
    }

    /** Ends the test: exit code 1 if an answer was wrong, or if nothing was looked at. */
    static void end() {
        sentenceEnds();
        System.out.println(checked + " answers looked at, " + wrong + " not as due");
        if (wrong != 0 || checked == 0) {
            System.exit(1);
        }
    }
}
