/** Promises 4 (clause), 5 (pat), 6 (alt), 7 (compile), 8 (resetProgram) and 12 (progInfo). */
public final class ProgramTest {
    private static final int WILD = LazyPatMatch.P_WILD;
    private static final int VAR = LazyPatMatch.P_VAR;
    private static final int CON = LazyPatMatch.P_CON;
    private static final int BANG = LazyPatMatch.P_BANG;
    private static final int LAZY = LazyPatMatch.P_LAZY;
    private static final int NO_GUARD = LazyPatMatch.NO_GUARD;

    public static void main(String[] args) {
        clauseNeedsACompleteOne();
        clauseStartsAfresh();
        atMostEightClauses();
        patCounts();
        patRefusesWrongTokens();
        atMostSixtyFourTokens();
        variablesOncePerClause();
        altRefusesWrongOnes();
        altTakesTheEdges();
        atMostSixteenAlternatives();
        compileNeedsACompleteClause();
        compileFreezes();
        resetProgramForgets();
        progInfoOutside();
        Checks.end();
    }

    private static void info(LazyPatMatch x, String when, int... due) {
        for (int what = 0; what < due.length; what++) {
            Checks.due(when + ": progInfo(" + what + ")", x.progInfo(what), due[what]);
        }
    }

    private static void refusedPat(LazyPatMatch x, int kind, int v) {
        String before = Snapshot.of(x);
        Checks.refused("pat(" + kind + ", " + v + ")", x.pat(kind, v));
        Snapshot.same("pat(" + kind + ", " + v + ")", before, Snapshot.of(x));
    }

    private static void refusedAlt(LazyPatMatch x, int gvar, int gtag, int rhs) {
        String before = Snapshot.of(x);
        String call = "alt(" + gvar + ", " + gtag + ", " + rhs + ")";
        Checks.refused(call, x.alt(gvar, gtag, rhs));
        Snapshot.same(call, before, Snapshot.of(x));
    }

    private static void refusedClause(LazyPatMatch x, String when) {
        String before = Snapshot.of(x);
        Checks.refused("clause() " + when, x.clause());
        Snapshot.same("clause() " + when, before, Snapshot.of(x));
    }

    private static void refusedCompile(LazyPatMatch x, String when) {
        String before = Snapshot.of(x);
        Checks.refused("compile() " + when, x.compile());
        Snapshot.same("compile() " + when, before, Snapshot.of(x));
    }

    private static void clauseNeedsACompleteOne() {
        LazyPatMatch x = new LazyPatMatch(2, 8);
        Writer w = new Writer(x).clause();
        refusedClause(x, "with no pattern");
        w.wild();
        refusedClause(x, "with one pattern of two");
        w.con(4);
        refusedClause(x, "with an open pattern");
        w.wild();
        refusedClause(x, "without an alternative");
        w.gives(8).clause();
        refusedClause(x, "with no pattern in the second clause");
        w.wild().wild();
        refusedClause(x, "without an alternative in the second clause");
    }

    private static void clauseStartsAfresh() {
        LazyPatMatch x = new LazyPatMatch(1, 8);
        new Writer(x).clause().con(6).var(7).var(2).gives(7).gives(2);
        info(x, "first clause", 1, 3, 2, 0, 1, 0, 132, 2);
        new Writer(x).clause();
        info(x, "second clause", 2, 3, 2, 0, 0, 0, 0, 0);
        new Writer(x).var(2).gives(2);
        info(x, "second clause", 2, 4, 3, 0, 1, 0, 4, 1);
    }

    private static void atMostEightClauses() {
        LazyPatMatch x = new LazyPatMatch(1, 8);
        for (int k = 0; k < LazyPatMatch.MAX_CLAUSES; k++) {
            new Writer(x).clause().var(k).gives(k);
        }
        refusedClause(x, "beyond eight");
        info(x, "eight clauses", 8, 8, 8, 0, 1, 0, 128, 1);
        new Writer(x).compile();
    }

    private static void patCounts() {
        LazyPatMatch x = new LazyPatMatch(3, 8);
        Writer w = new Writer(x).clause();
        w.con(6);
        info(x, "con 6", 1, 1, 0, 0, 0, 2, 0, 0);
        w.bang();
        info(x, "bang", 1, 2, 0, 0, 0, 2, 0, 0);
        w.con(5);
        info(x, "con 5", 1, 3, 0, 0, 0, 2, 0, 0);
        w.var(0);
        info(x, "var 0", 1, 4, 0, 0, 0, 1, 1, 0);
        w.con(7);
        info(x, "con 7", 1, 5, 0, 0, 0, 2, 1, 0);
        w.con(3);
        info(x, "con 3", 1, 6, 0, 0, 0, 1, 1, 0);
        w.wild();
        info(x, "wild", 1, 7, 0, 0, 1, 0, 1, 0);
        w.lazy();
        info(x, "lazy", 1, 8, 0, 0, 1, 1, 1, 0);
        w.lazy();
        info(x, "lazy in lazy", 1, 9, 0, 0, 1, 1, 1, 0);
        w.con(4);
        info(x, "con 4", 1, 10, 0, 0, 1, 1, 1, 0);
        w.var(6);
        info(x, "var 6", 1, 11, 0, 0, 2, 0, 65, 0);
        w.con(0);
        info(x, "con 0", 1, 12, 0, 0, 3, 0, 65, 0);
        for (int kind = WILD; kind <= LAZY; kind++) {
            refusedPat(x, kind, 1);
        }
    }

    private static void patRefusesWrongTokens() {
        LazyPatMatch x = new LazyPatMatch(2, 8);
        for (int kind = WILD; kind <= LAZY; kind++) {
            refusedPat(x, kind, 0);
        }
        new Writer(x).clause();
        int[][] wrong = {
            {-1, 0}, {5, 0}, {Integer.MIN_VALUE, 0}, {Integer.MAX_VALUE, 0},
            {VAR, -1}, {VAR, 8}, {VAR, 32}, {VAR, Integer.MIN_VALUE}, {VAR, Integer.MAX_VALUE},
            {CON, -1}, {CON, 8}, {CON, Integer.MIN_VALUE}, {CON, Integer.MAX_VALUE},
        };
        for (int[] row : wrong) {
            refusedPat(x, row[0], row[1]);
        }
        new Writer(x).token(BANG, 99).token(WILD, -99).token(LAZY, Integer.MIN_VALUE).token(WILD, 8);
        info(x, "x ignored", 1, 4, 0, 0, 2, 0, 0, 0);
    }

    private static void atMostSixtyFourTokens() {
        LazyPatMatch x = new LazyPatMatch(1, 8);
        Writer w = new Writer(x).clause();
        for (int i = 0; i < LazyPatMatch.MAX_TOKENS - 1; i++) {
            w.bang();
        }
        w.con(6);
        info(x, "64 tokens", 1, 64, 0, 0, 0, 2, 0, 0);
        for (int kind = WILD; kind <= LAZY; kind++) {
            refusedPat(x, kind, 0);
        }
        refusedAlt(x, NO_GUARD, 0, 8);
        refusedClause(x, "that can't be completed");
        refusedCompile(x, "of a clause that can't be completed");
        tokensOfAllClausesCount();
    }

    private static void tokensOfAllClausesCount() {
        LazyPatMatch x = new LazyPatMatch(1, 8);
        Writer w = new Writer(x);
        for (int k = 0; k < 4; k++) {
            w.clause();
            for (int i = 0; i < 15; i++) {
                w.lazy();
            }
            w.wild().gives(11);
        }
        info(x, "64 tokens in four clauses", 4, 64, 4, 0, 1, 0, 0, 1);
        w.clause();
        refusedPat(x, WILD, 0);
        refusedCompile(x, "without room for a pattern");
    }

    private static void variablesOncePerClause() {
        LazyPatMatch x = new LazyPatMatch(3, 8);
        Writer w = new Writer(x).clause();
        w.con(6).con(6).con(6).var(0).var(1).con(6).var(2).var(3).con(6);
        for (int v = 0; v < 4; v++) {
            refusedPat(x, VAR, v);
        }
        w.lazy().var(4).bang().var(5);
        info(x, "six variables", 1, 13, 0, 0, 1, 0, 63, 0);
        refusedPat(x, VAR, 4);
        w.var(6).var(7);
        info(x, "eight variables", 1, 15, 0, 0, 3, 0, 255, 0);
        w.gives(7).clause().var(7);
        info(x, "a bound variable of another clause", 2, 16, 1, 0, 1, 0, 128, 0);
    }

    private static void altRefusesWrongOnes() {
        LazyPatMatch x = new LazyPatMatch(2, 8);
        refusedAlt(x, NO_GUARD, 0, 8);
        Writer w = new Writer(x).clause();
        refusedAlt(x, NO_GUARD, 0, 8);
        w.var(3);
        refusedAlt(x, NO_GUARD, 0, 8);
        refusedAlt(x, 3, 0, 3);
        w.con(4);
        refusedAlt(x, NO_GUARD, 0, 8);
        w.var(5);
        int[][] wrong = {
            {-2, 0, 8}, {8, 0, 8}, {35, 0, 8}, {0, 0, 8}, {4, 0, 8}, {7, 0, 8},
            {Integer.MIN_VALUE, 0, 8}, {Integer.MAX_VALUE, 0, 8},
            {3, -1, 8}, {3, 8, 8}, {5, Integer.MIN_VALUE, 8}, {5, Integer.MAX_VALUE, 8},
            {NO_GUARD, 0, -1}, {NO_GUARD, 0, 12}, {NO_GUARD, 0, Integer.MIN_VALUE},
            {NO_GUARD, 0, Integer.MAX_VALUE}, {NO_GUARD, 0, 0}, {NO_GUARD, 0, 4}, {NO_GUARD, 0, 7},
            {3, 0, 12}, {3, 0, 4}, {5, 7, -1},
        };
        for (int[] row : wrong) {
            refusedAlt(x, row[0], row[1], row[2]);
        }
        w.gives(8).clause().wild().var(1);
        refusedAlt(x, 3, 0, 8);
        refusedAlt(x, NO_GUARD, 0, 5);
    }

    private static void altTakesTheEdges() {
        LazyPatMatch x = new LazyPatMatch(1, 8);
        Writer w = new Writer(x).clause().con(7).var(0).var(7);
        w.when(0, 0, 0).when(7, 7, 7).gives(8).gives(11);
        w.when(NO_GUARD, -1, 9).when(NO_GUARD, 8, 10);
        info(x, "six alternatives", 1, 3, 6, 0, 1, 0, 129, 6);
    }

    private static void atMostSixteenAlternatives() {
        LazyPatMatch x = new LazyPatMatch(1, 8);
        Writer w = new Writer(x).clause().wild();
        for (int i = 0; i < 9; i++) {
            w.gives(8);
        }
        w.clause().var(1);
        for (int i = 0; i < 7; i++) {
            w.when(1, i, 1);
        }
        info(x, "sixteen alternatives", 2, 2, 16, 0, 1, 0, 2, 7);
        refusedAlt(x, NO_GUARD, 0, 8);
        w.clause().wild();
        refusedAlt(x, NO_GUARD, 0, 8);
        refusedCompile(x, "without room for an alternative");
    }

    private static void compileNeedsACompleteClause() {
        LazyPatMatch x = new LazyPatMatch(2, 8);
        refusedCompile(x, "with no clause");
        Writer w = new Writer(x).clause();
        refusedCompile(x, "with no pattern");
        w.var(0);
        refusedCompile(x, "with one pattern of two");
        w.lazy();
        refusedCompile(x, "with an open pattern");
        w.wild();
        refusedCompile(x, "without an alternative");
        w.gives(0).clause();
        refusedCompile(x, "with an empty second clause");
        w.wild().wild();
        refusedCompile(x, "without an alternative in the second clause");
        w.gives(8).compile();
        info(x, "compiled", 2, 5, 2, 1, 2, 0, 0, 1);
    }

    private static void compileFreezes() {
        LazyPatMatch x = new LazyPatMatch(1, 8);
        new Writer(x).clause().con(4).var(2).when(2, 1, 2).gives(9);
        String outcome = Snapshot.outcome(x);
        String heap = Snapshot.heap(x);
        new Writer(x).compile();
        Snapshot.same("compile", outcome, Snapshot.outcome(x));
        Snapshot.same("compile", heap, Snapshot.heap(x));
        info(x, "compiled", 1, 2, 2, 1, 1, 0, 4, 2);
        refusedClause(x, "once compiled");
        refusedPat(x, WILD, 0);
        refusedAlt(x, NO_GUARD, 0, 8);
        refusedCompile(x, "once compiled");
    }

    private static void resetProgramForgets() {
        LazyPatMatch x = new LazyPatMatch(1, 8);
        x.cell(LazyPatMatch.CELL_THUNK, 5, 0, 0);
        new Writer(x).clause().con(5).var(2).when(2, 5, 2).gives(9).compile();
        Checks.due("run", x.run(LazyPatMatch.MODE_CLAUSES, 0, 0, 0), LazyPatMatch.RES_VALUE);
        String outcome = Snapshot.outcome(x);
        String heap = Snapshot.heap(x);
        x.resetProgram();
        Snapshot.same("resetProgram", outcome, Snapshot.outcome(x));
        Snapshot.same("resetProgram", heap, Snapshot.heap(x));
        info(x, "reset", 0, 0, 0, 0, 0, 0, 0, 0);
        refusedPat(x, WILD, 0);
        refusedAlt(x, NO_GUARD, 0, 8);
        refusedCompile(x, "after a reset");
        Checks.due("run after a reset", x.run(0, 0, 0, 0), LazyPatMatch.REFUSED);
        resetOfAnOpenClause(x);
    }

    private static void resetOfAnOpenClause(LazyPatMatch x) {
        new Writer(x).clause().con(6).var(1);
        x.resetProgram();
        info(x, "reset of an open clause", 0, 0, 0, 0, 0, 0, 0, 0);
        new Writer(x).clause();
        info(x, "clause after a reset", 1, 0, 0, 0, 0, 0, 0, 0);
        new Writer(x).var(1).gives(1).clause().wild().gives(8).compile();
        info(x, "a new program", 2, 2, 2, 1, 1, 0, 0, 1);
        Checks.due("run of a new program", x.run(1, 0, 0, 0), LazyPatMatch.RES_VALUE);
        Checks.due("its clause", x.last(LazyPatMatch.LAST_CLAUSE), 0);
        Checks.due("its tag", x.last(LazyPatMatch.LAST_TAG), 5);
    }

    private static void progInfoOutside() {
        LazyPatMatch x = new LazyPatMatch(1, 8);
        new Writer(x).clause().var(0);
        String before = Snapshot.of(x);
        int[] selectors = {-1, 8, Integer.MIN_VALUE, Integer.MAX_VALUE};
        for (int what : selectors) {
            Checks.due("progInfo(" + what + ")", x.progInfo(what), -1);
        }
        Snapshot.same("progInfo", before, Snapshot.of(x));
    }
}
