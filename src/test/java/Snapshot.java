/** All that the getters tell of an object, as one line, to see whether a call changed anything. */
final class Snapshot {
    private Snapshot() {
    }

    static String of(LazyPatMatch x) {
        return program(x) + " " + outcome(x) + " " + heap(x);
    }

    static String program(LazyPatMatch x) {
        StringBuilder text = new StringBuilder("program");
        for (int what = LazyPatMatch.PI_CLAUSES; what <= LazyPatMatch.PI_CLAUSE_ALTS; what++) {
            text.append(' ').append(x.progInfo(what));
        }
        return text.toString();
    }

    static String outcome(LazyPatMatch x) {
        StringBuilder text = new StringBuilder("outcome");
        for (int what = LazyPatMatch.LAST_KIND; what <= LazyPatMatch.LAST_LOGLEN; what++) {
            text.append(' ').append(x.last(what));
        }
        text.append(" log");
        for (int i = -1; i <= 33; i++) {
            text.append(' ').append(x.logAt(i));
        }
        return text.toString();
    }

    static String heap(LazyPatMatch x) {
        StringBuilder text = new StringBuilder("heap");
        for (int c = -1; c <= 33; c++) {
            for (int what = LazyPatMatch.CI_STATE; what <= LazyPatMatch.CI_FIELD1; what++) {
                text.append(' ').append(x.cellInfo(c, what));
            }
        }
        return text.toString();
    }

    static void same(String call, String before, String after) {
        Checks.due(call + " changed something:\n  " + before + "\n  " + after + "\n ",
                before.equals(after) ? 1 : 0, 1);
    }
}
