/** The boundary cases of promises 9 (run) and 10 (last, logAt), sentence by sentence, in both modes. */
public final class RunEdgesTest {
    private static final int RES_VALUE = LazyPatMatch.RES_VALUE;
    private static final int RES_NOMATCH = LazyPatMatch.RES_NOMATCH;
    private static final int RES_BOTTOM = LazyPatMatch.RES_BOTTOM;
    private static final int RES_LOOP = LazyPatMatch.RES_LOOP;
    private static final int RES_LAZYFAIL = LazyPatMatch.RES_LAZYFAIL;

    private static Bench b;

    public static void main(String[] args) {
        for (int mode = LazyPatMatch.MODE_CLAUSES; mode <= LazyPatMatch.MODE_TREE; mode++) {
            b = new Bench(mode);
            unusedArguments();
            notCompiled();
            wrongModes();
            wrongArguments();
            emptyHeap();
            firstAndLastCell();
            refusedBetweenRuns();
            refusedCallsLeaveNoTrace();

            noMatchStoresNothing();
            lastClauseAndAlternative();
            errorInTheLastAlternative();
            errorInPatternsHasNoAlternative();

            valuesAreNotLogged();
            aLoopIsLoggedOnce();
            errorsKeepUnevaluatedStates();
            valuesStayAfterAnError();
            eachCellOncePerRun();
            logOfAllCells();
            indOfItsOwnFields();

            wildAndVariableForceNothing();
            failureStopsBeforeTheNextField();
            cellsThatAreTheirOwnFields();
            noFieldsNoSubpatterns();
            deepestPattern();

            noLazyAncestor();
            sixtyThreeLazies();
            lazyFailureInAGuardAndInARhs();
            errorBeforeALazyFailure();
            matchedInFullBeforeTheNextOne();

            theLogIsEmptied();
            firstFailureGoesToTheNextClause();
            sitesAreDropped();
            noAlternativeIsChosen();
            noneOfEightClauses();
            removedClausesAreNotTried();
            theProgramIsNotChanged();

            beforeAnyRun();
            lastOtherSelectors();
            logAtOutside();
        }
        modesNeverDiffer();
        Checks.end();
    }

    private static void unusedArguments() {
        Checks.sentence("9: only the first ARITY arguments are used, the others are ignored");
        for (int far : Outside.of(0, 0)) {
            b.program(1).var(0).gives(0).compile();
            b.heap(Bench.thunk(1));
            b.run("one argument", RES_VALUE, 0, far, far);
            b.log("one argument", 0);
            b.program(2).wild().var(0).gives(0).compile();
            b.heap(Bench.thunk(1));
            b.run("two arguments", RES_VALUE, 0, 0, far);
            b.log("two arguments", 0);
        }
    }

    private static void notCompiled() {
        Checks.sentence("9.1: run refused when the program is not compiled");
        b.x = new LazyPatMatch(1, 8);
        b.heap(Bench.thunk(0));
        Refused.run(b.x, "without a clause", b.mode, 0, 0, 0);
        Writer w = new Writer(b.x).clause();
        Refused.run(b.x, "with an empty clause", b.mode, 0, 0, 0);
        w.bang().var(0);
        Refused.run(b.x, "without an alternative", b.mode, 0, 0, 0);
        w.gives(0);
        Refused.run(b.x, "with a complete clause", b.mode, 0, 0, 0);
        w.compile();
        b.run("compiled", RES_VALUE, 0);
        b.x.resetProgram();
        Refused.run(b.x, "after resetProgram", b.mode, 0, 0, 0);
        w.clause().wild().gives(8);
        Refused.run(b.x, "with a second program", b.mode, 0, 0, 0);
    }

    private static void wrongModes() {
        Checks.sentence("9.2: run refused when mode is not MODE_CLAUSES or MODE_TREE");
        b.program(1).bang().var(0).gives(0).compile();
        b.heap(Bench.thunk(0), Bench.thunk(1));
        for (int mode : Outside.of(0, 1)) {
            Refused.run(b.x, "before a run", mode, 0, 0, 0);
        }
        b.run("a right mode", RES_VALUE, 1);
        for (int mode : Outside.of(0, 1)) {
            Refused.run(b.x, "after a run", mode, 0, 0, 0);
        }
    }

    private static void wrongArguments() {
        Checks.sentence("9.3: run refused when a used argument is not in 0..count-1");
        for (int arity = 1; arity <= 3; arity++) {
            Writer w = b.program(arity);
            for (int i = 0; i < arity; i++) {
                w.bang().var(i);
            }
            w.gives(0).compile();
            b.heap(Bench.thunk(0), Bench.thunk(1), Bench.thunk(2));
            for (int wrong : Outside.of(0, 2)) {
                for (int i = 0; i < arity; i++) {
                    int[] a = {0, 1, 2};
                    a[i] = wrong;
                    Refused.run(b.x, "with arity " + arity, b.mode, a);
                }
            }
        }
    }

    private static void emptyHeap() {
        Checks.sentence("9.3: no cell is an argument when the heap is empty");
        for (int arity = 1; arity <= 3; arity++) {
            Writer w = b.program(arity);
            for (int i = 0; i < arity; i++) {
                w.wild();
            }
            w.gives(8).compile();
            Refused.run(b.x, "on an empty heap", b.mode, 0, 0, 0);
            Refused.run(b.x, "on an empty heap", b.mode, -1, -1, -1);
            b.heap(Bench.bottom());
            b.run("one cell", RES_VALUE, 0, 0, 0);
            b.x.clearHeap();
            Refused.run(b.x, "on a cleared heap", b.mode, 0, 0, 0);
        }
    }

    private static void firstAndLastCell() {
        Checks.sentence("9.3: cells 0 and count-1 are arguments");
        for (int cells : new int[] {8, 32}) {
            b.program(3, cells).var(0).var(1).var(2).when(0, 7, 8).when(1, 7, 8).gives(2).compile();
            int[][] heap = new int[cells][];
            for (int c = 0; c < cells; c++) {
                heap[c] = Bench.thunk(c % 4);
            }
            b.heap(heap);
            b.run("the edges", RES_VALUE, 0, cells - 1, 0);
            b.outcome("the edges", 0, 2, 0, 0);
            b.log("the edges", 0, cells - 1);
            b.run("the edges turned", RES_VALUE, cells - 1, 0, cells - 1);
            b.outcome("the edges turned", 0, 2, 3, cells - 1);
            Refused.run(b.x, "beyond a full heap", b.mode, cells, 0, 0);
            Refused.run(b.x, "beyond a full heap", b.mode, 0, cells, 0);
            Refused.run(b.x, "beyond a full heap", b.mode, 0, 0, cells);
        }
    }

    private static void refusedBetweenRuns() {
        Checks.sentence("9: a refused run changes nothing, including heap, log and last result");
        b.program(2).con(4).bang().var(0).var(1).when(1, 0, 0).compile();
        b.heap(Bench.thunk(0), Bench.thunk(4, 0, 0), Bench.bottom(), Bench.ind(3), Bench.thunk(1),
                Bench.thunk(5));
        int[][] runs = {{1, 0, RES_VALUE}, {1, 4, RES_NOMATCH}, {5, 0, RES_NOMATCH}, {2, 0, RES_BOTTOM},
            {1, 3, RES_LOOP}};
        for (int[] run : runs) {
            b.run("a run", run[2], run[0], run[1]);
            Refused.run(b.x, "by its mode", 2, 1, 0, 0);
            Refused.run(b.x, "by its mode", -1, 1, 0, 0);
            Refused.run(b.x, "by argument 0", b.mode, 6, 0, 0);
            Refused.run(b.x, "by argument 1", b.mode, 1, 6, 0);
            Refused.run(b.x, "by argument 1", b.mode, 1, -1, 0);
        }
    }

    /** A program written with a refused call after each one that is taken runs as if they were not there. */
    private static void refusedCallsLeaveNoTrace() {
        Checks.sentence("4 to 7: a refused call changes nothing, nor what a later run does");
        b.program(2);
        LazyPatMatch x = b.x;
        refusedWhileWriting(x);
        int[][] tokens = {{LazyPatMatch.P_CON, 6}, {LazyPatMatch.P_VAR, 3}, {LazyPatMatch.P_LAZY, 0},
            {LazyPatMatch.P_CON, 4}, {LazyPatMatch.P_VAR, 1}, {LazyPatMatch.P_VAR, 0}};
        for (int[] token : tokens) {
            new Writer(x).token(token[0], token[1]);
            refusedWhileWriting(x);
            Refused.pat(x, LazyPatMatch.P_VAR, token[0] == LazyPatMatch.P_VAR ? token[1] : 8);
        }
        int[][] alternatives = {{3, 7, 8}, {0, 2, 3}, {LazyPatMatch.NO_GUARD, 0, 1}};
        for (int[] alternative : alternatives) {
            new Writer(x).when(alternative[0], alternative[1], alternative[2]);
            Refused.pat(x, LazyPatMatch.P_WILD, 0);
            Refused.alt(x, 2, 0, 8);
            Refused.alt(x, 3, 8, 8);
            Refused.alt(x, 3, 0, 2);
            Refused.alt(x, LazyPatMatch.NO_GUARD, 0, 12);
        }
        new Writer(x).compile();
        Refused.writing(x, "once compiled");
        b.heap(Bench.thunk(0), Bench.thunk(1), Bench.thunk(2), Bench.thunk(4, 2, 0),
                Bench.thunk(6, 1, 3));
        b.run("the third alternative", RES_VALUE, 4, 0);
        b.outcome("the third alternative", 0, 2, 2, 2);
        b.log("the third alternative", 4, 1, 0, 3, 2);
        Refused.writing(x, "after a run");
        b.run("the second alternative", RES_VALUE, 4, 2);
        b.outcome("the second alternative", 0, 1, 1, 1);
        b.log("the second alternative");
    }

    private static void refusedWhileWriting(LazyPatMatch x) {
        Refused.clause(x, "in an open clause");
        Refused.pat(x, 5, 3);
        Refused.pat(x, LazyPatMatch.P_VAR, 8);
        Refused.pat(x, LazyPatMatch.P_CON, -1);
        Refused.alt(x, 2, 0, 2);
        Refused.compile(x, "in an open clause");
    }

    private static void noMatchStoresNothing() {
        Checks.sentence("9: RES_NOMATCH stores clause, alt, tag and cell -1");
        b.program(1).con(1).gives(11).clause().var(0).when(0, 2, 0).compile();
        b.heap(Bench.thunk(2), Bench.thunk(3));
        b.run("a value", RES_VALUE, 0);
        b.outcome("a value", 1, 0, 2, 0);
        b.run("no match after a value", RES_NOMATCH, 1);
        b.outcome("no match after a value", -1, -1, -1, -1);
        b.log("no match after a value", 1);
    }

    private static void lastClauseAndAlternative() {
        Checks.sentence("9: RES_VALUE stores the clause and the alternative chosen, the last ones too");
        Writer w = b.program(1).con(7).wild().wild().gives(8);
        for (int k = 1; k < 7; k++) {
            w.clause().con(7).wild().wild().gives(8);
        }
        w.clause().var(0);
        for (int tag = 0; tag < 8; tag++) {
            w.when(0, 7 - tag, 0);
        }
        w.when(0, 0, 8).compile();
        b.heap(Bench.thunk(0), Bench.value(7, 0, 0));
        b.run("the last clause", RES_VALUE, 0);
        b.outcome("the last clause", 7, 7, 0, 0);
        b.run("the first clause", RES_VALUE, 1);
        b.outcome("the first clause", 0, 0, 0, -1);
        sixteenGuards(11);
        b.heap(Bench.thunk(3));
        b.run("the last alternative", RES_VALUE, 0);
        b.outcome("the last alternative", 0, 15, 3, -1);
        b.log("the last alternative", 0);
    }

    /** One clause: fifteen guards that the tag 3 does not meet, then this rhs. */
    private static void sixteenGuards(int rhs) {
        Writer w = b.program(1).var(0);
        for (int i = 0; i < 15; i++) {
            w.when(0, i % 3, 10);
        }
        w.when(0, 3, rhs).compile();
    }

    private static void errorInTheLastAlternative() {
        Checks.sentence("9: an error stores the clause and the alternative being processed");
        Writer w = b.program(2).con(7).wild().wild().wild().gives(8);
        for (int k = 1; k < 7; k++) {
            w.clause().con(7).wild().wild().wild().gives(8);
        }
        w.clause().var(0).lazy().con(4).var(1);
        for (int i = 0; i < 7; i++) {
            w.when(0, 7 - i, 8);
        }
        w.when(1, 0, 8).gives(1).compile();
        b.heap(Bench.thunk(0), Bench.bottom(), Bench.ind(2), Bench.thunk(5), Bench.thunk(4, 1, 0),
                Bench.thunk(4, 2, 0));
        b.run("BOTTOM", RES_BOTTOM, 0, 4);
        b.outcome("BOTTOM", 7, 7, -1, -1);
        b.log("BOTTOM", 0, 4, 1);
        b.run("a loop", RES_LOOP, 0, 5);
        b.outcome("a loop", 7, 7, -1, -1);
        b.log("a loop", 5, 2);
        b.run("a lazy failure", RES_LAZYFAIL, 0, 3);
        b.outcome("a lazy failure", 7, 7, -1, -1);
        b.log("a lazy failure", 3);
        b.program(2).var(0).var(1).when(0, 1, 8).when(0, 0, 1).compile();
        b.heap(Bench.thunk(0), Bench.bottom(), Bench.ind(2));
        b.run("BOTTOM in a rhs", RES_BOTTOM, 0, 1);
        b.outcome("BOTTOM in a rhs", 0, 1, -1, -1);
        b.run("a loop in a rhs", RES_LOOP, 0, 2);
        b.outcome("a loop in a rhs", 0, 1, -1, -1);
    }

    private static void errorInPatternsHasNoAlternative() {
        Checks.sentence("9: alt is -1 if the end came in pattern matching");
        b.program(2).var(0).wild().when(0, 7, 8).when(0, 6, 8)
                .clause().wild().con(0).gives(8).compile();
        b.heap(Bench.thunk(2), Bench.bottom(), Bench.ind(2), Bench.thunk(0));
        b.run("a value", RES_VALUE, 0, 3);
        b.outcome("a value", 1, 0, 0, -1);
        b.run("BOTTOM in clause 1", RES_BOTTOM, 0, 1);
        b.outcome("BOTTOM in clause 1", 1, -1, -1, -1);
        b.run("a loop in clause 1", RES_LOOP, 0, 2);
        b.outcome("a loop in clause 1", 1, -1, -1, -1);
        b.run("BOTTOM in clause 0", RES_BOTTOM, 1, 3);
        b.outcome("BOTTOM in clause 0", 0, 0, -1, -1);
    }

    private static void valuesAreNotLogged() {
        Checks.sentence("9, FORCE 1: nothing happens to a VALUE and nothing is logged");
        b.program(2).bang().con(6).con(0).bang().wild().var(0).when(0, 7, 8).gives(0).compile();
        b.heap(Bench.value(0, 0, 0), Bench.value(6, 0, 1));
        String heap = Snapshot.heap(b.x);
        b.run("values only", RES_VALUE, 1, 1);
        b.outcome("values only", 0, 1, 6, 1);
        b.log("values only");
        Snapshot.same("a run over values", heap, Snapshot.heap(b.x));
    }

    private static void aLoopIsLoggedOnce() {
        Checks.sentence("9, FORCE 2: a marked cell ends the run with RES_LOOP and is not logged again");
        b.program(1).bang().wild().gives(8).compile();
        b.heap(Bench.ind(0), Bench.ind(0), Bench.ind(1));
        b.run("its own target", RES_LOOP, 0);
        b.outcome("its own target", 0, -1, -1, -1);
        b.log("its own target", 0);
        b.run("one step before", RES_LOOP, 1);
        b.log("one step before", 1, 0);
        b.run("two steps before", RES_LOOP, 2);
        b.log("two steps before", 2, 1, 0);
    }

    private static void errorsKeepUnevaluatedStates() {
        Checks.sentence("9: after an error every marked cell keeps its former unevaluated state");
        b.program(1).var(0).gives(0).compile();
        b.heap(Bench.bottom(), Bench.ind(0), Bench.ind(1), Bench.ind(3), Bench.ind(3), Bench.ind(4));
        String heap = Snapshot.heap(b.x);
        for (int i = 0; i < 2; i++) {
            b.run("to BOTTOM", RES_BOTTOM, 2);
            b.log("to BOTTOM", 2, 1, 0);
            Snapshot.same("BOTTOM", heap, Snapshot.heap(b.x));
            b.run("to a loop", RES_LOOP, 5);
            b.log("to a loop", 5, 4, 3);
            Snapshot.same("a loop", heap, Snapshot.heap(b.x));
        }
    }

    private static void valuesStayAfterAnError() {
        Checks.sentence("9: cells that became VALUE stay VALUE, for later runs too");
        b.program(3).bang().wild().con(5).wild().bang().wild().gives(8)
                .clause().wild().lazy().con(4).var(0).wild().gives(0).compile();
        b.heap(Bench.thunk(5), Bench.ind(0), Bench.bottom(), Bench.thunk(6, 0, 1), Bench.ind(4),
                Bench.thunk(1), Bench.thunk(2));
        b.run("BOTTOM at last", RES_BOTTOM, 3, 1, 2);
        b.log("BOTTOM at last", 3, 1, 0, 2);
        b.states("BOTTOM at last", Bench.VALUE, Bench.VALUE, Bench.BOTTOM, Bench.VALUE, Bench.IND,
                Bench.THUNK, Bench.THUNK);
        b.contents("BOTTOM at last", 1, 5, 0, -1);
        b.run("a loop at last", RES_LOOP, 3, 0, 4);
        b.log("a loop at last", 4);
        b.run("a lazy failure at last", RES_LAZYFAIL, 5, 6, 0);
        b.log("a lazy failure at last", 5, 6);
        b.states("a lazy failure at last", Bench.VALUE, Bench.VALUE, Bench.BOTTOM, Bench.VALUE,
                Bench.IND, Bench.VALUE, Bench.VALUE);
        b.run("only BOTTOM is left to log", RES_BOTTOM, 5, 1, 2);
        b.log("only BOTTOM is left to log", 2);
    }

    private static void eachCellOncePerRun() {
        Checks.sentence("9: each cell is logged at most once per run");
        b.program(3).bang().bang().var(0).bang().var(1).con(4).var(2)
                .when(0, 7, 8).when(1, 7, 8).when(2, 7, 8).gives(2)
                .clause().wild().wild().wild().gives(8).compile();
        b.heap(Bench.thunk(4, 0, 0), Bench.ind(0));
        b.run("one cell everywhere", RES_VALUE, 1, 1, 1);
        b.outcome("one cell everywhere", 0, 3, 4, 0);
        b.log("one cell everywhere", 1, 0);
        b.run("one cell in the next run", RES_VALUE, 1, 0, 1);
        b.log("one cell in the next run");
    }

    private static void logOfAllCells() {
        Checks.sentence("9: the log holds at most CELLS entries, and as many when all are forced");
        for (int cells : new int[] {8, 32}) {
            fullLog(cells, Bench.thunk(2), RES_VALUE);
            fullLog(cells, Bench.bottom(), RES_BOTTOM);
            fullLog(cells, Bench.ind(0), RES_LOOP);
        }
    }

    /** A full heap: this first cell, and each other one an IND to the one before it. */
    private static void fullLog(int cells, int[] first, int kind) {
        b.program(1, cells).bang().var(0).gives(0).clause().wild().gives(8).compile();
        int[][] heap = new int[cells][];
        int[] log = new int[cells];
        for (int c = 0; c < cells; c++) {
            heap[c] = c == 0 ? first : Bench.ind(c - 1);
            log[c] = cells - 1 - c;
        }
        b.heap(heap);
        b.run("all cells", kind, cells - 1);
        b.log("all cells", log);
        for (int c = 0; c < cells && kind == RES_VALUE; c++) {
            b.contents("all cells", c, 2, -1, -1);
        }
        b.run("all cells again", kind, cells - 1);
        b.log("all cells again", kind == RES_VALUE ? new int[0] : log);
    }

    private static void indOfItsOwnFields() {
        Checks.sentence("9, FORCE 4: an IND becomes VALUE with the tag and fields of its target");
        b.program(1).con(7).con(7).wild().var(0).var(1).when(1, 7, 0).compile();
        b.heap(Bench.value(7, 0, 0), Bench.ind(0), Bench.thunk(7, 1, 2), Bench.ind(2), Bench.ind(3));
        b.run("through INDs", RES_VALUE, 4);
        b.outcome("through INDs", 0, 0, 7, 0);
        b.log("through INDs", 4, 3, 2, 1);
        b.contents("target with itself as fields", 1, 7, 0, 0);
        b.contents("target with an IND as a field", 3, 7, 1, 2);
        b.contents("target of a target", 4, 7, 1, 2);
    }

    private static void wildAndVariableForceNothing() {
        Checks.sentence("9, MATCH: P_WILD, P_VAR and P_LAZY force nothing");
        b.program(3).wild().var(0).lazy().bang().con(7).wild().wild().gives(9).compile();
        b.heap(Bench.bottom(), Bench.ind(1), Bench.thunk(0));
        String heap = Snapshot.heap(b.x);
        for (int a = 0; a < 3; a++) {
            b.run("nothing forced", RES_VALUE, a, (a + 1) % 3, (a + 2) % 3);
            b.outcome("nothing forced", 0, 0, 1, -1);
            b.log("nothing forced");
        }
        Snapshot.same("a run that forces nothing", heap, Snapshot.heap(b.x));
    }

    private static void failureStopsBeforeTheNextField() {
        Checks.sentence("9, MATCH: field 1 only if field 0 succeeded; no field if the tag differs");
        b.program(1).con(6).con(0).bang().wild().gives(8).compile();
        b.heap(Bench.thunk(0), Bench.thunk(1), Bench.bottom(), Bench.thunk(6, 1, 2),
                Bench.thunk(7, 2, 2), Bench.thunk(6, 0, 2));
        b.run("field 0 fails", RES_NOMATCH, 3);
        b.log("field 0 fails", 3, 1);
        b.run("the tag differs", RES_NOMATCH, 4);
        b.log("the tag differs", 4);
        b.run("field 0 matches", RES_BOTTOM, 5);
        b.log("field 0 matches", 5, 0, 2);
    }

    private static void cellsThatAreTheirOwnFields() {
        Checks.sentence("9, MATCH: a cell that is its own field is no loop");
        b.program(1).con(4).con(4).con(4).bang().var(0).when(0, 4, 0).compile();
        b.heap(Bench.thunk(4, 0, 0), Bench.ind(0), Bench.thunk(4, 2, 0), Bench.ind(2));
        b.run("a THUNK", RES_VALUE, 0);
        b.outcome("a THUNK", 0, 0, 4, 0);
        b.log("a THUNK", 0);
        b.run("an IND to one", RES_VALUE, 3);
        b.outcome("an IND to one", 0, 0, 4, 2);
        b.log("an IND to one", 3, 2);
        b.contents("an IND to one", 3, 4, 2, -1);
    }

    private static void noFieldsNoSubpatterns() {
        Checks.sentence("9, MATCH: P_CON of arity 0 forces and compares the tag only");
        b.program(2).con(3).bang().con(0).gives(8).compile();
        b.heap(Bench.thunk(3, -1, -1), Bench.thunk(0, 99, 99), Bench.thunk(4, 0, 0));
        b.run("both", RES_VALUE, 0, 1);
        b.log("both", 0, 1);
        b.run("3 is not 4", RES_NOMATCH, 2, 1);
        b.log("3 is not 4", 2);
    }

    /** 64 tokens in one pattern, of which 63 force cell 0. */
    private static void deepestPattern() {
        Checks.sentence("9, MATCH: a pattern of MAX_TOKENS tokens");
        Writer w = b.program(1);
        for (int i = 0; i < 63; i++) {
            w.token(i % 2 == 0 ? LazyPatMatch.P_CON : LazyPatMatch.P_BANG, 5);
        }
        w.var(7).gives(7).compile();
        b.heap(Bench.thunk(5), Bench.thunk(0));
        b.run("the deepest", RES_VALUE, 0);
        b.outcome("the deepest", 0, 0, 5, 0);
        b.log("the deepest", 0);
        b.run("no match", RES_NOMATCH, 1);
        b.log("no match", 1);
        Writer wide = b.program(1);
        for (int i = 0; i < 31; i++) {
            wide.con(6).wild();
        }
        wide.bang().var(7).gives(7).compile();
        b.heap(Bench.bottom(), Bench.thunk(6, 0, 1));
        b.run("the last field", RES_VALUE, 1);
        b.outcome("the last field", 0, 0, 6, 1);
        b.log("the last field", 1);
    }

    private static void noLazyAncestor() {
        Checks.sentence("9, DEMAND: when m = 0 the FORCE is all that is done");
        b.program(2).lazy().con(4).wild().con(6).lazy().con(4).wild().var(0).gives(0).compile();
        b.heap(Bench.bottom(), Bench.thunk(1), Bench.thunk(6, 0, 1));
        b.run("lazies beside the variable", RES_VALUE, 0, 2);
        b.outcome("lazies beside the variable", 0, 0, 1, 1);
        b.log("lazies beside the variable", 2, 1);
    }

    private static void sixtyThreeLazies() {
        Checks.sentence("9, DEMAND: L1..Lm for the greatest m");
        Writer w = b.program(1);
        for (int i = 0; i < 63; i++) {
            w.lazy();
        }
        w.var(0).when(0, 3, 8).gives(0).compile();
        b.heap(Bench.thunk(2), Bench.bottom(), Bench.value(3, 0, 0));
        b.run("63 lazies", RES_VALUE, 0);
        b.outcome("63 lazies", 0, 1, 2, 0);
        b.log("63 lazies", 0);
        b.run("63 lazies on BOTTOM", RES_BOTTOM, 1);
        b.outcome("63 lazies on BOTTOM", 0, 0, -1, -1);
        b.run("63 lazies on a VALUE", RES_VALUE, 2);
        b.outcome("63 lazies on a VALUE", 0, 0, 0, -1);
        Writer fields = b.program(1);
        for (int i = 0; i < 31; i++) {
            fields.lazy().con(4);
        }
        fields.lazy().var(0).gives(0).compile();
        int[][] heap = new int[32][];
        int[] log = new int[32];
        for (int c = 0; c < 32; c++) {
            heap[c] = c == 0 ? Bench.thunk(1) : Bench.thunk(4, c - 1, 0);
            log[c] = 31 - c;
        }
        b.heap(heap);
        b.run("32 lazies down a chain", RES_VALUE, 31);
        b.outcome("32 lazies down a chain", 0, 0, 1, 0);
        b.log("32 lazies down a chain", log);
        b.run("a chain that is one short", RES_LAZYFAIL, 30);
        b.outcome("a chain that is one short", 0, 0, -1, -1);
    }

    private static void lazyFailureInAGuardAndInARhs() {
        Checks.sentence("9, DEMAND 1: a failure ends the run with RES_LAZYFAIL");
        b.program(2).lazy().con(4).var(0).var(1).when(1, 1, 0).when(0, 1, 8).gives(9)
                .clause().wild().wild().gives(10).compile();
        b.heap(Bench.thunk(5), Bench.thunk(1), Bench.thunk(2));
        b.run("in a rhs", RES_LAZYFAIL, 0, 1);
        b.outcome("in a rhs", 0, 0, -1, -1);
        b.log("in a rhs", 1, 0);
        b.states("in a rhs", Bench.VALUE, Bench.VALUE, Bench.THUNK);
        b.run("in a guard", RES_LAZYFAIL, 0, 2);
        b.outcome("in a guard", 0, 1, -1, -1);
        b.log("in a guard", 2);
    }

    private static void errorBeforeALazyFailure() {
        Checks.sentence("9, DEMAND: an error inside FORCE ends the run with that error");
        b.program(1).lazy().con(6).bang().wild().con(4).var(0).gives(0).compile();
        b.heap(Bench.bottom(), Bench.ind(1), Bench.thunk(5), Bench.thunk(6, 0, 2),
                Bench.thunk(6, 1, 2), Bench.thunk(6, 2, 2), Bench.thunk(6, 2, 0));
        b.run("BOTTOM, then a failure", RES_BOTTOM, 3);
        b.log("BOTTOM, then a failure", 3, 0);
        b.run("a loop, then a failure", RES_LOOP, 4);
        b.log("a loop, then a failure", 4, 1);
        b.run("a failure", RES_LAZYFAIL, 5);
        b.log("a failure", 5, 2);
        b.run("BOTTOM at last", RES_BOTTOM, 6);
        b.log("BOTTOM at last", 6, 0);
    }

    /** What stands beside L2 and after it under L1 is matched before L2, and fails before it. */
    private static void matchedInFullBeforeTheNextOne() {
        Checks.sentence("9, DEMAND 1: the matches go outermost first, each in full");
        b.program(1).lazy().con(6).lazy().con(4).var(0).con(1).gives(0).compile();
        b.heap(Bench.thunk(1), Bench.bottom(), Bench.thunk(2), Bench.thunk(4, 2, 0),
                Bench.thunk(6, 3, 0), Bench.thunk(6, 1, 2), Bench.thunk(6, 1, 0));
        b.run("both match", RES_VALUE, 4);
        b.outcome("both match", 0, 0, 2, 2);
        b.log("both match", 4, 0, 3, 2);
        b.run("the outer one fails first", RES_LAZYFAIL, 5);
        b.log("the outer one fails first", 5);
        b.run("the inner one errs", RES_BOTTOM, 6);
        b.log("the inner one errs", 6, 1);
    }

    private static void theLogIsEmptied() {
        Checks.sentence("9, RUN 1: the log is emptied");
        b.program(1).con(4).bang().wild().gives(8).clause().wild().gives(9).compile();
        b.heap(Bench.thunk(0), Bench.thunk(4, 0, 0), Bench.bottom());
        b.run("a log of two", RES_VALUE, 1);
        b.log("a log of two", 1, 0);
        b.run("a log of none", RES_VALUE, 1);
        b.log("a log of none");
        b.run("a log of one", RES_BOTTOM, 2);
        b.log("a log of one", 2);
        b.run("none after an error", RES_VALUE, 0);
        b.log("none after an error");
        b.x.resetProgram();
        new Writer(b.x).clause().wild().gives(8).compile();
        b.run("BOTTOM not forced", RES_VALUE, 2);
        b.log("BOTTOM not forced");
    }

    private static void firstFailureGoesToTheNextClause() {
        Checks.sentence("9, RUN 2: at the first failure, go to the next clause");
        b.program(3).con(0).con(0).con(0).gives(8).clause().wild().wild().con(1).gives(9).compile();
        b.heap(Bench.thunk(0), Bench.thunk(1), Bench.bottom(), Bench.value(0, 0, 0));
        b.run("argument 0 fails", RES_VALUE, 1, 2, 1);
        b.outcome("argument 0 fails", 1, 0, 1, -1);
        b.log("argument 0 fails", 1);
        b.run("argument 1 fails", RES_BOTTOM, 3, 1, 2);
        b.outcome("argument 1 fails", 1, -1, -1, -1);
        b.log("argument 1 fails", 2);
        b.run("argument 2 fails", RES_VALUE, 3, 0, 1);
        b.outcome("argument 2 fails", 1, 0, 1, -1);
        b.log("argument 2 fails", 0);
    }

    private static void sitesAreDropped() {
        Checks.sentence("9, RUN 2: what variables denoted, and the sites, are dropped");
        b.program(2).var(0).lazy().con(4).var(1).when(0, 7, 0).when(1, 7, 1)
                .clause().lazy().con(4).var(1).var(0).when(0, 7, 0).gives(1).compile();
        b.heap(Bench.thunk(0), Bench.thunk(1), Bench.thunk(4, 0, 0), Bench.thunk(4, 1, 0));
        b.run("the second clause", RES_VALUE, 2, 3);
        b.outcome("the second clause", 1, 1, 0, 0);
        b.log("the second clause", 2, 3, 1, 0);
        b.run("the arguments turned", RES_VALUE, 3, 2);
        b.outcome("the arguments turned", 1, 1, 1, 1);
        b.log("the arguments turned");
    }

    private static void noAlternativeIsChosen() {
        Checks.sentence("9, RUN 3: after the last clause the result is RES_NOMATCH");
        b.program(1).var(0).when(0, 1, 8).clause().con(2).gives(8).clause().var(0).when(0, 3, 0)
                .when(0, 4, 0).compile();
        b.heap(Bench.thunk(0), Bench.thunk(2));
        b.run("nothing is chosen", RES_NOMATCH, 0);
        b.outcome("nothing is chosen", -1, -1, -1, -1);
        b.log("nothing is chosen", 0);
        b.run("the middle clause", RES_VALUE, 1);
        b.outcome("the middle clause", 1, 0, 0, -1);
    }

    private static void noneOfEightClauses() {
        Checks.sentence("9, RUN 3: after the last of MAX_CLAUSES clauses the result is RES_NOMATCH");
        Writer w = b.program(1).con(7).wild().wild().gives(8);
        for (int v = 6; v >= 0; v--) {
            w.clause().var(v).when(v, 5, v).when(v, 6, 8);
        }
        w.compile();
        b.heap(Bench.thunk(0));
        b.run("none of eight", RES_NOMATCH, 0);
        b.outcome("none of eight", -1, -1, -1, -1);
        b.log("none of eight", 0);
    }

    private static void removedClausesAreNotTried() {
        Checks.sentence("8: a removed clause, token or alternative takes no part in a later run");
        Writer w = b.program(1);
        for (int k = 0; k < 7; k++) {
            w.wild().gives(8).gives(9).clause();
        }
        w.wild().gives(8).gives(9).compile();
        b.heap(Bench.thunk(0), Bench.bottom());
        b.run("the old program", RES_VALUE, 0);
        b.outcome("the old program", 0, 0, 0, -1);
        b.x.resetProgram();
        w.clause().var(0).when(0, 1, 8).when(0, 2, 8).when(0, 3, 8).compile();
        b.run("the new program", RES_NOMATCH, 0);
        b.outcome("the new program", -1, -1, -1, -1);
        b.log("the new program", 0);
        b.run("the new program on BOTTOM", RES_BOTTOM, 1);
        b.outcome("the new program on BOTTOM", 0, 0, -1, -1);
    }

    private static void theProgramIsNotChanged() {
        Checks.sentence("9: the program is not changed by a run");
        b.program(1).lazy().con(4).var(0).when(0, 0, 0).clause().bang().wild().gives(11).compile();
        b.heap(Bench.thunk(0), Bench.thunk(4, 0, 0), Bench.bottom(), Bench.ind(3), Bench.thunk(1),
                Bench.thunk(4, 4, 0));
        String program = Snapshot.program(b.x);
        for (int i = 0; i < 2; i++) {
            b.run("a value", RES_VALUE, 1);
            b.outcome("a value", 0, 0, 0, 0);
            b.run("the second clause", RES_VALUE, 5);
            b.outcome("the second clause", 1, 0, 3, -1);
            b.run("a lazy failure", RES_LAZYFAIL, 0);
            b.run("BOTTOM", RES_BOTTOM, 2);
            b.run("a loop", RES_LOOP, 3);
            Snapshot.same("run", program, Snapshot.program(b.x));
        }
    }

    private static void beforeAnyRun() {
        Checks.sentence("10: RES_NONE, -1 and 0 before any run that was not refused");
        b.program(1).wild().gives(8);
        b.heap(Bench.thunk(0));
        nothingRun("before compile");
        new Writer(b.x).compile();
        b.x.run(2, 0, 0, 0);
        b.x.run(b.mode, 1, 0, 0);
        nothingRun("after refused runs");
        b.x.clearHeap();
        b.x.resetProgram();
        nothingRun("after clearHeap and resetProgram");
        b.program(1).wild().gives(8).compile();
        b.heap(Bench.thunk(0));
        b.run("a first run", RES_VALUE, 0);
        b.outcome("a first run", 0, 0, 0, -1);
    }

    private static void nothingRun(String when) {
        Checks.due(when + ": kind", b.x.last(LazyPatMatch.LAST_KIND), LazyPatMatch.RES_NONE);
        b.outcome(when, -1, -1, -1, -1);
        b.log(when);
    }

    private static void lastOtherSelectors() {
        Checks.sentence("10: last of any other what: -1; nothing changes");
        b.program(1).con(5).bang().var(0).gives(0).compile();
        b.heap(Bench.thunk(1), Bench.thunk(5, 0, 0));
        String fresh = Snapshot.of(b.x);
        for (int what : Outside.of(0, 5)) {
            Checks.due("last(" + what + ") before a run", b.x.last(what), -1);
        }
        Snapshot.same("last", fresh, Snapshot.of(b.x));
        b.run("a log of two", RES_VALUE, 1);
        String before = Snapshot.of(b.x);
        for (int what : Outside.of(0, 5)) {
            Checks.due("last(" + what + ")", b.x.last(what), -1);
        }
        Snapshot.same("last", before, Snapshot.of(b.x));
    }

    private static void logAtOutside() {
        Checks.sentence("10: logAt answers -1 if i is not in 0..len-1; nothing changes");
        b.program(1).con(5).bang().var(0).gives(0).clause().wild().gives(8).compile();
        b.heap(Bench.thunk(1), Bench.thunk(5, 0, 0));
        logEndsAt(0);
        b.run("a log of two", RES_VALUE, 1);
        b.log("a log of two", 1, 0);
        logEndsAt(2);
        b.run("a log of none", RES_VALUE, 1);
        logEndsAt(0);
        fullLog(32, Bench.bottom(), RES_BOTTOM);
        logEndsAt(32);
        fullLog(8, Bench.bottom(), RES_BOTTOM);
        logEndsAt(8);
    }

    private static void logEndsAt(int length) {
        String before = Snapshot.of(b.x);
        for (int i : Outside.of(0, length - 1)) {
            Checks.due("logAt(" + i + ") of " + length, b.x.logAt(i), -1);
        }
        Snapshot.same("logAt", before, Snapshot.of(b.x));
    }

    /** Each choice of modes for a row of runs that meets every kind of result. */
    private static void modesNeverDiffer() {
        Checks.sentence("9: using one mode instead of the other changes no answer, at any point");
        int[][] runs = {{2, 4}, {5, 2}, {6, 0}, {2, 0}, {1, 7}, {3, 3}};
        String[] due = new String[runs.length];
        boolean[] kinds = new boolean[5];
        for (int choice = 0; choice < 1 << runs.length; choice++) {
            b.program(2).con(6).var(0).lazy().con(4).var(1).bang().var(2).when(0, 1, 1).when(2, 2, 0)
                    .clause().con(2).lazy().con(5).var(0).when(0, 2, 0).compile();
            b.heap(Bench.thunk(2), Bench.ind(0), Bench.thunk(6, 1, 0), Bench.thunk(1), Bench.thunk(6, 3, 1),
                    Bench.ind(4), Bench.bottom(), Bench.ind(7));
            for (int i = 0; i < runs.length; i++) {
                int kind = b.x.run(choice >> i & 1, runs[i][0], runs[i][1], 0);
                kinds[kind] = true;
                String now = kind + " " + Snapshot.of(b.x);
                due[i] = choice == 0 ? now : due[i];
                Snapshot.same("run " + i + " of the modes " + choice, due[i], now);
            }
        }
        for (int kind = RES_VALUE; kind <= RES_LAZYFAIL; kind++) {
            Checks.due("a run ended with " + kind, kinds[kind] ? 1 : 0, 1);
        }
    }
}
