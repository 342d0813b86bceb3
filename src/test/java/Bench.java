/** An object under test, the mode that its runs use, and checks of what a run left. */
final class Bench {
    static final int VALUE = LazyPatMatch.CELL_VALUE;
    static final int THUNK = LazyPatMatch.CELL_THUNK;
    static final int IND = LazyPatMatch.CELL_IND;
    static final int BOTTOM = LazyPatMatch.CELL_BOTTOM;

    final int mode;
    LazyPatMatch x;

    Bench(int mode) {
        this.mode = mode;
    }

    /** A new object whose first clause is started. */
    Writer program(int arity) {
        return program(arity, 32);
    }

    Writer program(int arity, int cells) {
        x = new LazyPatMatch(arity, cells);
        return new Writer(x).clause();
    }

    /** Empties the heap and adds these cells, each given as kind, tag, a, b. */
    void heap(int[]... cells) {
        x.clearHeap();
        for (int i = 0; i < cells.length; i++) {
            int[] c = cells[i];
            Checks.due("cell " + i, x.cell(c[0], c[1], c[2], c[3]), i);
        }
    }

    static int[] value(int tag, int a, int b) {
        return new int[] {VALUE, tag, a, b};
    }

    static int[] thunk(int tag, int a, int b) {
        return new int[] {THUNK, tag, a, b};
    }

    static int[] thunk(int tag) {
        return thunk(tag, 0, 0);
    }

    static int[] ind(int target) {
        return new int[] {IND, 0, target, 0};
    }

    static int[] bottom() {
        return new int[] {BOTTOM, 0, 0, 0};
    }

    void run(String what, int kind, int... arguments) {
        int a1 = arguments.length > 1 ? arguments[1] : 0;
        int a2 = arguments.length > 2 ? arguments[2] : 0;
        Checks.due(what + ": run in mode " + mode, x.run(mode, arguments[0], a1, a2), kind);
        Checks.due(what + ": kind", x.last(LazyPatMatch.LAST_KIND), kind);
    }

    void outcome(String what, int clause, int alt, int tag, int cell) {
        Checks.due(what + ": clause", x.last(LazyPatMatch.LAST_CLAUSE), clause);
        Checks.due(what + ": alt", x.last(LazyPatMatch.LAST_ALT), alt);
        Checks.due(what + ": tag", x.last(LazyPatMatch.LAST_TAG), tag);
        Checks.due(what + ": cell", x.last(LazyPatMatch.LAST_CELL), cell);
    }

    void log(String what, int... cells) {
        Checks.due(what + ": log length", x.last(LazyPatMatch.LAST_LOGLEN), cells.length);
        for (int i = 0; i < cells.length; i++) {
            Checks.due(what + ": logAt(" + i + ")", x.logAt(i), cells[i]);
        }
        Checks.due(what + ": after the log", x.logAt(cells.length), -1);
    }

    /** The states of the first cells, in order. */
    void states(String what, int... states) {
        for (int c = 0; c < states.length; c++) {
            Checks.due(what + ": state of " + c, x.cellInfo(c, LazyPatMatch.CI_STATE), states[c]);
        }
    }

    void contents(String what, int c, int tag, int field0, int field1) {
        Checks.due(what + ": tag of " + c, x.cellInfo(c, LazyPatMatch.CI_TAG), tag);
        Checks.due(what + ": field 0 of " + c, x.cellInfo(c, LazyPatMatch.CI_FIELD0), field0);
        Checks.due(what + ": field 1 of " + c, x.cellInfo(c, LazyPatMatch.CI_FIELD1), field1);
    }
}
