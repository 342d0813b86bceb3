/** Promises 1 (arity, cells and the fresh state), 2 (cell), 3 (clearHeap) and 11 (cellInfo). */
public final class HeapTest {
    private static final int VALUE = LazyPatMatch.CELL_VALUE;
    private static final int THUNK = LazyPatMatch.CELL_THUNK;
    private static final int IND = LazyPatMatch.CELL_IND;
    private static final int BOTTOM = LazyPatMatch.CELL_BOTTOM;

    public static void main(String[] args) {
        arityIsClamped();
        cellsAreClamped();
        freshState();
        constructorCells();
        otherCells();
        refusedCells();
        fullHeap();
        cellLeavesTheRest();
        clearHeapLeavesTheRest();
        cellInfoOutside();
        Checks.end();
    }

    private static void arityIsClamped() {
        int[][] table = {{Integer.MIN_VALUE, 1}, {-1, 1}, {0, 1}, {1, 1}, {2, 2}, {3, 3}, {4, 3},
            {Integer.MAX_VALUE, 3}};
        for (int[] row : table) {
            LazyPatMatch x = new LazyPatMatch(row[0], 8);
            Checks.accepted("clause()", x.clause());
            int taken = 0;
            for (int i = 0; i < 5; i++) {
                taken += x.pat(LazyPatMatch.P_WILD, 0) ? 1 : 0;
            }
            Checks.due("patterns for arity " + row[0], taken, row[1]);
        }
    }

    private static void cellsAreClamped() {
        int[][] table = {{Integer.MIN_VALUE, 8}, {0, 8}, {7, 8}, {8, 8}, {9, 9}, {31, 31}, {32, 32},
            {33, 32}, {Integer.MAX_VALUE, 32}};
        for (int[] row : table) {
            LazyPatMatch x = new LazyPatMatch(1, row[0]);
            Checks.due("room for cells " + row[0], fill(x), row[1]);
            x.clearHeap();
            x.resetProgram();
            Checks.due("room for cells " + row[0] + " later", fill(x), row[1]);
        }
    }

    /** Adds cells until one is refused; answers how many there were. */
    private static int fill(LazyPatMatch x) {
        int taken = 0;
        for (int i = 0; i < 40; i++) {
            int id = x.cell(THUNK, 0, 0, 0);
            if (id >= 0) {
                Checks.due("id", id, taken);
                taken++;
            }
        }
        return taken;
    }

    private static void freshState() {
        LazyPatMatch x = new LazyPatMatch(3, 32);
        for (int what = LazyPatMatch.PI_CLAUSES; what <= LazyPatMatch.PI_CLAUSE_ALTS; what++) {
            Checks.due("fresh progInfo(" + what + ")", x.progInfo(what), 0);
        }
        int[] due = {LazyPatMatch.RES_NONE, -1, -1, -1, -1, 0};
        for (int what = 0; what < due.length; what++) {
            Checks.due("fresh last(" + what + ")", x.last(what), due[what]);
        }
        Checks.due("fresh logAt(0)", x.logAt(0), -1);
        for (int what = -1; what <= 4; what++) {
            Checks.due("fresh cellInfo(0, " + what + ")", x.cellInfo(0, what), -1);
        }
        Checks.refused("fresh pat", x.pat(LazyPatMatch.P_WILD, 0));
        Checks.refused("fresh alt", x.alt(LazyPatMatch.NO_GUARD, 0, 8));
        Checks.refused("fresh compile", x.compile());
        Checks.due("fresh run", x.run(0, 0, 0, 0), LazyPatMatch.REFUSED);
    }

    private static void constructorCells() {
        int[] arity = {0, 0, 0, 0, 1, 1, 2, 2};
        for (int kind = VALUE; kind <= THUNK; kind++) {
            LazyPatMatch x = new LazyPatMatch(1, 32);
            for (int tag = 0; tag <= 7; tag++) {
                int a = arity[tag] >= 1 ? 0 : 99;
                int b = arity[tag] == 2 ? tag : -99;
                Checks.due("cell with tag " + tag, x.cell(kind, tag, a, b), tag);
                info(x, tag, kind, tag, arity[tag] >= 1 ? 0 : -1, arity[tag] == 2 ? tag : -1);
            }
        }
    }

    private static void otherCells() {
        LazyPatMatch x = new LazyPatMatch(1, 8);
        Checks.due("IND to itself", x.cell(IND, 99, 0, -99), 0);
        info(x, 0, IND, -1, 0, -1);
        Checks.due("IND with a tag of two fields", x.cell(IND, 6, 0, 1), 1);
        info(x, 1, IND, -1, 0, -1);
        Checks.due("BOTTOM", x.cell(BOTTOM, 6, 0, 1), 2);
        info(x, 2, BOTTOM, -1, -1, -1);
        Checks.due("BOTTOM of anything", x.cell(BOTTOM, -9, 99, -99), 3);
        info(x, 3, BOTTOM, -1, -1, -1);
        Checks.due("fields that are the cell itself", x.cell(THUNK, 7, 4, 4), 4);
        info(x, 4, THUNK, 7, 4, 4);
    }

    private static void info(LazyPatMatch x, int c, int state, int tag, int field0, int field1) {
        int[] due = {state, tag, field0, field1};
        for (int what = 0; what < due.length; what++) {
            Checks.due("cellInfo(" + c + ", " + what + ")", x.cellInfo(c, what), due[what]);
        }
    }

    private static void refusedCells() {
        LazyPatMatch x = new LazyPatMatch(1, 8);
        x.cell(VALUE, 0, 0, 0);
        x.cell(VALUE, 1, 0, 0);
        int[][] wrong = {
            {-1, 0, 0, 0}, {4, 0, 0, 0}, {Integer.MIN_VALUE, 0, 0, 0}, {Integer.MAX_VALUE, 0, 0, 0},
            {VALUE, -1, 0, 0}, {VALUE, 8, 0, 0}, {THUNK, -1, 0, 0}, {THUNK, 8, 0, 0},
            {VALUE, Integer.MIN_VALUE, 0, 0}, {THUNK, Integer.MAX_VALUE, 0, 0},
            {VALUE, 4, -1, 0}, {VALUE, 4, 3, 0}, {THUNK, 5, -1, 0}, {THUNK, 5, 3, 0},
            {VALUE, 6, -1, 0}, {VALUE, 6, 3, 0}, {VALUE, 6, 0, -1}, {VALUE, 6, 0, 3},
            {THUNK, 7, -1, 0}, {THUNK, 7, 3, 0}, {THUNK, 7, 0, -1}, {THUNK, 7, 0, 3},
            {IND, 0, -1, 0}, {IND, 0, 3, 0}, {IND, 0, Integer.MIN_VALUE, 0},
            {IND, 0, Integer.MAX_VALUE, 0},
        };
        for (int[] row : wrong) {
            String call = "cell(" + row[0] + ", " + row[1] + ", " + row[2] + ", " + row[3] + ")";
            String before = Snapshot.of(x);
            Checks.due(call, x.cell(row[0], row[1], row[2], row[3]), -1);
            Snapshot.same(call, before, Snapshot.of(x));
        }
        Checks.due("the next id", x.cell(IND, 0, 2, 0), 2);
    }

    private static void fullHeap() {
        LazyPatMatch x = new LazyPatMatch(1, 9);
        fill(x);
        String before = Snapshot.of(x);
        for (int kind = -1; kind <= 4; kind++) {
            Checks.due("cell in a full heap", x.cell(kind, 0, 0, 0), -1);
        }
        Snapshot.same("cell in a full heap", before, Snapshot.of(x));
    }

    /** An object with a compiled program, a heap and a run that left a log of two cells. */
    private static LazyPatMatch used() {
        LazyPatMatch x = new LazyPatMatch(2, 8);
        x.cell(THUNK, 4, 0, 0);
        x.cell(IND, 0, 0, 0);
        new Writer(x).clause().var(3).bang().var(5).gives(5).compile();
        Checks.due("run", x.run(LazyPatMatch.MODE_TREE, 0, 1, 0), LazyPatMatch.RES_VALUE);
        return x;
    }

    private static void cellLeavesTheRest() {
        LazyPatMatch x = used();
        String program = Snapshot.program(x);
        String outcome = Snapshot.outcome(x);
        Checks.due("cell after a run", x.cell(BOTTOM, 0, 0, 0), 2);
        Snapshot.same("cell", program, Snapshot.program(x));
        Snapshot.same("cell", outcome, Snapshot.outcome(x));
    }

    private static void clearHeapLeavesTheRest() {
        LazyPatMatch x = used();
        String program = Snapshot.program(x);
        String outcome = Snapshot.outcome(x);
        x.clearHeap();
        Snapshot.same("clearHeap", program, Snapshot.program(x));
        Snapshot.same("clearHeap", outcome, Snapshot.outcome(x));
        Checks.due("logAt of a gone cell", x.logAt(0), 1);
        Checks.due("logAt of a gone cell", x.logAt(1), 0);
        for (int c = 0; c < 8; c++) {
            Checks.due("a gone cell", x.cellInfo(c, LazyPatMatch.CI_STATE), -1);
        }
        Checks.due("run on a gone cell", x.run(0, 0, 0, 0), LazyPatMatch.REFUSED);
        Checks.due("a field beyond the empty heap", x.cell(THUNK, 4, 1, 0), -1);
        Checks.due("first id again", x.cell(THUNK, 2, 0, 0), 0);
        info(x, 0, THUNK, 2, -1, -1);
        Checks.due("the program still runs", x.run(0, 0, 0, 0), LazyPatMatch.RES_VALUE);
        x.clearHeap();
        x.clearHeap();
        Checks.due("first id after two clears", x.cell(BOTTOM, 0, 0, 0), 0);
    }

    private static void cellInfoOutside() {
        LazyPatMatch x = new LazyPatMatch(1, 8);
        x.cell(VALUE, 7, 0, 0);
        String before = Snapshot.of(x);
        int[] cells = {-1, 1, 8, 32, Integer.MIN_VALUE, Integer.MAX_VALUE};
        for (int c : cells) {
            for (int what = -1; what <= 4; what++) {
                Checks.due("cellInfo(" + c + ", " + what + ")", x.cellInfo(c, what), -1);
            }
        }
        int[] selectors = {-1, 4, Integer.MIN_VALUE, Integer.MAX_VALUE};
        for (int what : selectors) {
            Checks.due("cellInfo(0, " + what + ")", x.cellInfo(0, what), -1);
        }
        Snapshot.same("cellInfo", before, Snapshot.of(x));
    }
}
