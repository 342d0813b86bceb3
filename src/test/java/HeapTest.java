/** Promises 1 (construction), 2 (cell), 3 (clearHeap) and 11 (cellInfo), sentence by sentence. */
public final class HeapTest {
    private static final int VALUE = LazyPatMatch.CELL_VALUE;
    private static final int THUNK = LazyPatMatch.CELL_THUNK;
    private static final int IND = LazyPatMatch.CELL_IND;
    private static final int BOTTOM = LazyPatMatch.CELL_BOTTOM;
    private static final int[] FIELDS = {0, 0, 0, 0, 1, 1, 2, 2};

    public static void main(String[] args) {
        arityIsClamped();
        cellsAreClamped();
        bothStayFixed();
        freshState();

        idsInOrder();
        fullHeap();
        wrongKinds();
        wrongTags();
        wrongFirstFields();
        wrongSecondFields();
        wrongTargets();
        theCellItself();
        ignoredNumbers();
        cellLeavesTheRest();

        clearHeapForgetsTheCells();
        clearHeapOfAnEmptyHeap();
        clearHeapOfAFullHeap();
        clearHeapLeavesAnOpenClause();
        clearHeapLeavesTheLastRun();

        cellInfoOfNoCell();
        cellInfoOfEachState();
        cellInfoOtherSelectors();
        cellInfoShowsNoMark();
        Checks.end();
    }

    private static void arityIsClamped() {
        Checks.sentence("1: arity below the least becomes the least");
        for (int arity : new int[] {Integer.MIN_VALUE, -256, -1, 0}) {
            arityIs(new LazyPatMatch(arity, 8), 1);
        }
        Checks.sentence("1: arity above the greatest becomes the greatest");
        for (int arity : new int[] {4, 5, 257, Integer.MAX_VALUE}) {
            arityIs(new LazyPatMatch(arity, 8), 3);
        }
        Checks.sentence("1: arity within 1..3 stays");
        for (int arity = 1; arity <= 3; arity++) {
            arityIs(new LazyPatMatch(arity, 8), arity);
        }
    }

    /** The patterns that a clause takes, and the arguments that a run looks at. */
    private static void arityIs(LazyPatMatch x, int due) {
        x.resetProgram();
        x.clearHeap();
        Checks.accepted("clause()", x.clause());
        int taken = 0;
        for (int i = 0; i < 5; i++) {
            taken += x.pat(LazyPatMatch.P_WILD, 0) ? 1 : 0;
        }
        Checks.due("patterns in a clause", taken, due);
        new Writer(x).gives(8).compile();
        x.cell(BOTTOM, 0, 0, 0);
        int used = 0;
        for (int i = 0; i < 3; i++) {
            int answer = x.run(0, i == 0 ? -1 : 0, i == 1 ? -1 : 0, i == 2 ? -1 : 0);
            used += answer == LazyPatMatch.REFUSED ? 1 : 0;
        }
        Checks.due("arguments that a run looks at", used, due);
    }

    private static void cellsAreClamped() {
        Checks.sentence("1: cells below the least becomes the least");
        for (int cells : new int[] {Integer.MIN_VALUE, -1, 0, 1, 7}) {
            Checks.due("room for " + cells, fill(new LazyPatMatch(1, cells)), 8);
        }
        Checks.sentence("1: cells above the greatest becomes the greatest");
        for (int cells : new int[] {33, 34, 264, 65544, Integer.MAX_VALUE}) {
            Checks.due("room for " + cells, fill(new LazyPatMatch(1, cells)), 32);
        }
        Checks.sentence("1: cells within 8..32 stays");
        for (int cells = 8; cells <= 32; cells++) {
            Checks.due("room for " + cells, fill(new LazyPatMatch(1, cells)), cells);
        }
    }

    /** Adds cells until one is refused; answers how many were taken. */
    private static int fill(LazyPatMatch x) {
        int taken = 0;
        for (int i = 0; i < 40; i++) {
            taken += x.cell(THUNK, 0, 0, 0) >= 0 ? 1 : 0;
        }
        return taken;
    }

    private static void bothStayFixed() {
        Checks.sentence("1: both stay fixed for the life of the object");
        for (int arity = 1; arity <= 3; arity++) {
            for (int cells = 8; cells <= 32; cells += 8) {
                LazyPatMatch x = new LazyPatMatch(arity, cells);
                for (int i = 0; i < 3; i++) {
                    arityIs(x, arity);
                    x.clearHeap();
                    Checks.due("room for " + cells, fill(x), cells);
                }
            }
        }
    }

    private static void freshState() {
        for (int arity = 0; arity <= 4; arity++) {
            for (int cells : new int[] {0, 8, 32, 99}) {
                fresh(arity, cells);
            }
        }
    }

    private static void fresh(int arity, int cells) {
        LazyPatMatch x = new LazyPatMatch(arity, cells);
        Checks.sentence("1: the fresh heap is empty");
        for (int c = -1; c <= 32; c++) {
            info(x, c, -1, -1, -1, -1);
        }
        Checks.sentence("1: no clauses, tokens, alternatives, current clause; not compiled");
        for (int what = LazyPatMatch.PI_CLAUSES; what <= LazyPatMatch.PI_CLAUSE_ALTS; what++) {
            Checks.due("fresh progInfo(" + what + ")", x.progInfo(what), 0);
        }
        Refused.pat(x, LazyPatMatch.P_WILD, 0);
        Refused.alt(x, LazyPatMatch.NO_GUARD, 0, 8);
        Refused.compile(x, "fresh");
        Refused.run(x, "fresh", 0, 0, 0, 0);
        Checks.sentence("1: the log is empty, the last result is RES_NONE with -1 and length 0");
        int[] due = {LazyPatMatch.RES_NONE, -1, -1, -1, -1, 0};
        for (int what = 0; what < due.length; what++) {
            Checks.due("fresh last(" + what + ")", x.last(what), due[what]);
        }
        for (int i = -1; i <= 32; i++) {
            Checks.due("fresh logAt(" + i + ")", x.logAt(i), -1);
        }
    }

    private static void info(LazyPatMatch x, int c, int... due) {
        for (int what = 0; what < due.length; what++) {
            Checks.due("cellInfo(" + c + ", " + what + ")", x.cellInfo(c, what), due[what]);
        }
    }

    private static void idsInOrder() {
        Checks.sentence("2: ids 0, 1, 2, ... in order of creation");
        LazyPatMatch x = new LazyPatMatch(1, 32);
        for (int id = 0; id < 32; id++) {
            info(x, id, -1, -1, -1, -1);
            Checks.due("the id", x.cell(id % 4, 0, 0, 0), id);
            Checks.due("its state", x.cellInfo(id, LazyPatMatch.CI_STATE), id % 4);
        }
    }

    private static void fullHeap() {
        Checks.sentence("2.1: refused when count == CELLS");
        for (int cells : new int[] {8, 9, 31, 32}) {
            LazyPatMatch x = new LazyPatMatch(1, cells);
            for (int id = 0; id < cells; id++) {
                Checks.due("the id", x.cell(VALUE, 6, id, 0), id);
            }
            for (int kind = VALUE; kind <= BOTTOM; kind++) {
                Refused.cell(x, kind, 0, 0, 0);
                Refused.cell(x, kind, 6, cells - 1, cells - 1);
                Refused.cell(x, kind, 7, cells, cells);
            }
        }
    }

    /** An object with two cells. */
    private static LazyPatMatch two() {
        LazyPatMatch x = new LazyPatMatch(1, 8);
        Checks.due("the id", x.cell(VALUE, 0, 0, 0), 0);
        Checks.due("the id", x.cell(THUNK, 4, 0, 0), 1);
        return x;
    }

    private static void nextIsTwo(LazyPatMatch x) {
        Checks.due("the id after refusals", x.cell(THUNK, 6, 2, 1), 2);
        info(x, 2, THUNK, 6, 2, 1);
    }

    private static void wrongKinds() {
        Checks.sentence("2.2: refused when kind is not in 0..3");
        LazyPatMatch x = two();
        for (int kind : Outside.of(0, 3)) {
            Refused.cell(x, kind, 0, 0, 0);
            Refused.cell(x, kind, 6, 1, 1);
        }
        nextIsTwo(x);
    }

    private static void wrongTags() {
        Checks.sentence("2.3: VALUE and THUNK refused when tag is not in 0..7");
        LazyPatMatch x = two();
        for (int tag : Outside.of(0, 7)) {
            Refused.cell(x, VALUE, tag, 0, 0);
            Refused.cell(x, THUNK, tag, 0, 0);
        }
        nextIsTwo(x);
    }

    private static void wrongFirstFields() {
        Checks.sentence("2.4: refused when arity(tag) >= 1 and a is not in 0..count");
        LazyPatMatch x = two();
        for (int tag = 4; tag <= 7; tag++) {
            for (int a : Outside.of(0, 2)) {
                Refused.cell(x, VALUE, tag, a, 0);
                Refused.cell(x, THUNK, tag, a, 0);
            }
        }
        nextIsTwo(x);
        x.clearHeap();
        Refused.cell(x, VALUE, 4, 1, 0);
        Refused.cell(x, THUNK, 7, 1, 0);
    }

    private static void wrongSecondFields() {
        Checks.sentence("2.5: refused when arity(tag) == 2 and b is not in 0..count");
        LazyPatMatch x = two();
        for (int tag = 6; tag <= 7; tag++) {
            for (int b : Outside.of(0, 2)) {
                Refused.cell(x, VALUE, tag, 0, b);
                Refused.cell(x, THUNK, tag, 2, b);
            }
        }
        nextIsTwo(x);
        x.clearHeap();
        Refused.cell(x, VALUE, 6, 0, 1);
        Refused.cell(x, THUNK, 7, 0, 1);
    }

    private static void wrongTargets() {
        Checks.sentence("2.6: IND refused when a is not in 0..count");
        LazyPatMatch x = two();
        for (int a : Outside.of(0, 2)) {
            Refused.cell(x, IND, 0, a, 0);
            Refused.cell(x, IND, 6, a, 1);
        }
        nextIsTwo(x);
        x.clearHeap();
        Refused.cell(x, IND, 0, 1, 0);
    }

    private static void theCellItself() {
        Checks.sentence("2: a field or target equal to count is the new cell itself");
        for (int count : new int[] {0, 1, 31}) {
            for (int kind = VALUE; kind <= THUNK; kind++) {
                for (int tag = 4; tag <= 7; tag++) {
                    LazyPatMatch x = withCells(count);
                    Checks.due("the id", x.cell(kind, tag, count, count), count);
                    info(x, count, kind, tag, count, FIELDS[tag] == 2 ? count : -1);
                }
            }
            LazyPatMatch x = withCells(count);
            Checks.due("the id", x.cell(IND, 0, count, 0), count);
            info(x, count, IND, -1, count, -1);
        }
    }

    private static LazyPatMatch withCells(int count) {
        LazyPatMatch x = new LazyPatMatch(1, 32);
        for (int id = 0; id < count; id++) {
            x.cell(BOTTOM, 0, 0, 0);
        }
        return x;
    }

    private static void ignoredNumbers() {
        for (int far : Outside.of(0, 11)) {
            LazyPatMatch x = new LazyPatMatch(1, 32);
            Checks.sentence("2: fields are a and b as far as arity(tag) needs; the rest are ignored");
            for (int tag = 0; tag <= 7; tag++) {
                int kind = tag % 2 == 0 ? VALUE : THUNK;
                int a = FIELDS[tag] >= 1 ? 0 : far;
                int b = FIELDS[tag] == 2 ? tag - 1 : far;
                Checks.due("the id", x.cell(kind, tag, a, b), tag);
                info(x, tag, kind, tag, FIELDS[tag] >= 1 ? 0 : -1, FIELDS[tag] == 2 ? tag - 1 : -1);
            }
            Checks.sentence("2: IND ignores tag and b");
            Checks.due("the id", x.cell(IND, far, 5, far), 8);
            Checks.due("the id", x.cell(IND, 7, 5, 3), 9);
            info(x, 8, IND, -1, 5, -1);
            info(x, 9, IND, -1, 5, -1);
            Checks.sentence("2: BOTTOM ignores tag, a and b");
            Checks.due("the id", x.cell(BOTTOM, far, far, far), 10);
            Checks.due("the id", x.cell(BOTTOM, 7, 1, 2), 11);
            info(x, 10, BOTTOM, -1, -1, -1);
            info(x, 11, BOTTOM, -1, -1, -1);
        }
    }

    /** An object with a compiled program, three cells, and a run that left a log of two of them. */
    private static LazyPatMatch used() {
        LazyPatMatch x = new LazyPatMatch(2, 8);
        x.cell(THUNK, 4, 0, 0);
        x.cell(IND, 0, 0, 0);
        x.cell(VALUE, 6, 0, 1);
        new Writer(x).clause().var(3).bang().var(5).gives(5).compile();
        Checks.due("run", x.run(LazyPatMatch.MODE_TREE, 0, 1, 0), LazyPatMatch.RES_VALUE);
        return x;
    }

    private static void cellLeavesTheRest() {
        Checks.sentence("2: the program, the log and the last result do not change");
        LazyPatMatch x = used();
        String program = Snapshot.program(x);
        String outcome = Snapshot.outcome(x);
        for (int id = 3; id < 8; id++) {
            Checks.due("cell after a run", x.cell(id % 4, 6, id, 0), id);
            Snapshot.same("cell", program, Snapshot.program(x));
            Snapshot.same("cell", outcome, Snapshot.outcome(x));
            info(x, 0, VALUE, 4, 0, -1);
            info(x, 1, VALUE, 4, 0, -1);
            info(x, 2, VALUE, 6, 0, 1);
        }
        Refused.cell(x, BOTTOM, 0, 0, 0);
    }

    private static void clearHeapForgetsTheCells() {
        Checks.sentence("3: count is 0 and all cells are gone");
        LazyPatMatch x = used();
        x.clearHeap();
        for (int c = 0; c < 8; c++) {
            info(x, c, -1, -1, -1, -1);
        }
        Refused.run(x, "on gone cells", 0, 0, 1, 0);
        Refused.cell(x, IND, 0, 1, 0);
        Refused.cell(x, THUNK, 7, 0, 2);
        Checks.sentence("3: the next cell answers id 0");
        Checks.due("the first cell", x.cell(THUNK, 2, 0, 0), 0);
        info(x, 0, THUNK, 2, -1, -1);
        info(x, 1, -1, -1, -1, -1);
        Checks.due("the second cell", x.cell(IND, 0, 1, 0), 1);
        info(x, 1, IND, -1, 1, -1);
    }

    private static void clearHeapOfAnEmptyHeap() {
        Checks.sentence("3: clearHeap of an empty heap");
        LazyPatMatch x = new LazyPatMatch(1, 8);
        String fresh = Snapshot.of(x);
        x.clearHeap();
        x.clearHeap();
        Snapshot.same("clearHeap", fresh, Snapshot.of(x));
        Checks.due("the first cell", x.cell(BOTTOM, 0, 0, 0), 0);
    }

    private static void clearHeapOfAFullHeap() {
        Checks.sentence("3: clearHeap of a full heap");
        for (int cells : new int[] {8, 32}) {
            LazyPatMatch x = new LazyPatMatch(1, cells);
            for (int i = 0; i < 3; i++) {
                for (int id = 0; id < cells; id++) {
                    Checks.due("the id", x.cell(IND, 0, id, 0), id);
                }
                Refused.cell(x, BOTTOM, 0, 0, 0);
                x.clearHeap();
            }
        }
    }

    private static void clearHeapLeavesAnOpenClause() {
        Checks.sentence("3: clauses, tokens, alternatives and the current clause are unchanged");
        LazyPatMatch x = new LazyPatMatch(2, 8);
        new Writer(x).clause().wild().wild().gives(8).clause().var(1).con(6).var(4);
        x.cell(THUNK, 0, 0, 0);
        String program = Snapshot.program(x);
        x.clearHeap();
        Snapshot.same("clearHeap", program, Snapshot.program(x));
        Refused.pat(x, LazyPatMatch.P_VAR, 4);
        new Writer(x).var(2).gives(4);
        Checks.due("done", x.progInfo(LazyPatMatch.PI_DONE), 2);
    }

    private static void clearHeapLeavesTheLastRun() {
        Checks.sentence("3: the compiled flag, the log and the last result are unchanged");
        LazyPatMatch x = used();
        String program = Snapshot.program(x);
        String outcome = Snapshot.outcome(x);
        x.clearHeap();
        Snapshot.same("clearHeap", program, Snapshot.program(x));
        Snapshot.same("clearHeap", outcome, Snapshot.outcome(x));
        Refused.writing(x, "once compiled");
        Checks.sentence("3: logAt may still answer ids of cells that no longer exist");
        Checks.due("logAt(0)", x.logAt(0), 1);
        Checks.due("logAt(1)", x.logAt(1), 0);
        x.cell(BOTTOM, 0, 0, 0);
        Snapshot.same("clearHeap and cell", outcome, Snapshot.outcome(x));
        x.cell(THUNK, 3, 0, 0);
        Checks.due("the program still runs", x.run(0, 0, 1, 0), LazyPatMatch.RES_VALUE);
        Checks.due("its tag", x.last(LazyPatMatch.LAST_TAG), 3);
    }

    private static void cellInfoOfNoCell() {
        Checks.sentence("11: -1 for any what if c is not in 0..count-1");
        for (int count : new int[] {0, 1, 8}) {
            LazyPatMatch x = new LazyPatMatch(1, 8);
            for (int id = 0; id < count; id++) {
                x.cell(VALUE, 7, 0, 0);
            }
            String before = Snapshot.of(x);
            for (int c : Outside.of(0, count - 1)) {
                info(x, c, -1, -1, -1, -1);
                for (int what : Outside.of(0, 3)) {
                    Checks.due("cellInfo(" + c + ", " + what + ")", x.cellInfo(c, what), -1);
                }
            }
            Snapshot.same("cellInfo", before, Snapshot.of(x));
        }
    }

    private static void cellInfoOfEachState() {
        LazyPatMatch x = new LazyPatMatch(1, 32);
        Checks.sentence("11: state, tag and fields of VALUE and THUNK");
        for (int tag = 0; tag <= 7; tag++) {
            x.cell(VALUE, tag, 2 * tag, 0);
            x.cell(THUNK, tag, 2 * tag, 2 * tag + 1);
            int field0 = FIELDS[tag] >= 1 ? 2 * tag : -1;
            info(x, 2 * tag, VALUE, tag, field0, FIELDS[tag] == 2 ? 0 : -1);
            info(x, 2 * tag + 1, THUNK, tag, field0, FIELDS[tag] == 2 ? 2 * tag + 1 : -1);
        }
        Checks.sentence("11: field 0 is the target of an IND, the rest of it is -1");
        x.cell(IND, 7, 9, 3);
        info(x, 16, IND, -1, 9, -1);
        Checks.sentence("11: tag and fields of BOTTOM are -1");
        x.cell(BOTTOM, 7, 9, 3);
        info(x, 17, BOTTOM, -1, -1, -1);
    }

    private static void cellInfoOtherSelectors() {
        Checks.sentence("11: any other what: -1");
        LazyPatMatch x = new LazyPatMatch(1, 8);
        x.cell(VALUE, 7, 0, 0);
        x.cell(THUNK, 7, 0, 0);
        x.cell(IND, 7, 0, 0);
        x.cell(BOTTOM, 7, 0, 0);
        String before = Snapshot.of(x);
        for (int what : Outside.of(0, 3)) {
            for (int c = 0; c < 4; c++) {
                Checks.due("cellInfo(" + c + ", " + what + ")", x.cellInfo(c, what), -1);
            }
        }
        Snapshot.same("cellInfo", before, Snapshot.of(x));
    }

    private static void cellInfoShowsNoMark() {
        Checks.sentence("11: the mark is never visible");
        LazyPatMatch x = new LazyPatMatch(1, 8);
        x.cell(IND, 0, 0, 0);
        x.cell(IND, 0, 0, 0);
        x.cell(BOTTOM, 0, 0, 0);
        x.cell(IND, 0, 2, 0);
        new Writer(x).clause().var(0).gives(0).compile();
        String heap = Snapshot.heap(x);
        Checks.due("a loop", x.run(0, 1, 0, 0), LazyPatMatch.RES_LOOP);
        Snapshot.same("a loop", heap, Snapshot.heap(x));
        Checks.due("BOTTOM", x.run(1, 3, 0, 0), LazyPatMatch.RES_BOTTOM);
        Snapshot.same("BOTTOM", heap, Snapshot.heap(x));
        x.cell(THUNK, 3, 0, 0);
        x.cell(IND, 0, 4, 0);
        Checks.due("a value", x.run(0, 5, 0, 0), LazyPatMatch.RES_VALUE);
        info(x, 5, VALUE, 3, -1, -1);
    }
}
