/**
 * Promises 4 (clause), 5 (pat), 6 (alt), 7 (compile), 8 (resetProgram) and 12 (progInfo), sentence by
 * sentence.
 */
public final class ProgramTest {
    private static final int WILD = LazyPatMatch.P_WILD;
    private static final int VAR = LazyPatMatch.P_VAR;
    private static final int CON = LazyPatMatch.P_CON;
    private static final int BANG = LazyPatMatch.P_BANG;
    private static final int LAZY = LazyPatMatch.P_LAZY;
    private static final int NO_GUARD = LazyPatMatch.NO_GUARD;

    public static void main(String[] args) {
        clauseStartsAfresh();
        clauseOnceCompiled();
        clauseNeedsACompleteOne();
        atMostEightClauses();

        patOnceCompiled();
        patWithoutAClause();
        patBeyondTheArity();
        patOfAWrongKind();
        atMostSixtyFourTokens();
        tokensOfAllClausesCount();
        patOfAWrongVariable();
        patOfABoundVariable();
        patOfAWrongTag();
        patIgnoresX();
        patCounts();
        aRefusedPatBindsNothing();

        altOnceCompiled();
        altWithoutAClause();
        altBeforeAllPatterns();
        atMostSixteenAlternatives();
        altOfAWrongGuardVariable();
        altOfAnUnboundGuardVariable();
        altOfAWrongGuardTag();
        altWithoutAGuardIgnoresItsTag();
        altOfAWrongRhs();
        altOfAnUnboundRhs();
        altTakesTheEdges();

        compileOnceCompiled();
        compileWithoutAClause();
        compileNeedsACompleteClause();
        compileChangesNothingElse();
        refusedUntilReset();

        resetOfEachProgram();
        resetLeavesTheRest();
        roomAfterAReset();

        progInfoWithoutAClause();
        progInfoOfBoundVariables();
        progInfoOtherSelectors();
        Checks.end();
    }

    private static void info(LazyPatMatch x, String when, int... due) {
        for (int what = 0; what < due.length; what++) {
            Checks.due(when + ": progInfo(" + what + ")", x.progInfo(what), due[what]);
        }
    }

    private static LazyPatMatch ofArity(int arity) {
        return new LazyPatMatch(arity, 8);
    }

    /** One clause, f x5 = x5 or f x5 _ _ = x5 and so on, compiled. */
    private static LazyPatMatch compiled(int arity) {
        LazyPatMatch x = ofArity(arity);
        Writer w = new Writer(x).clause().var(5);
        for (int i = 1; i < arity; i++) {
            w.wild();
        }
        w.gives(5).compile();
        return x;
    }

    private static void clauseStartsAfresh() {
        Checks.sentence("4: no tokens, no alternatives, done 0, open 0 and no variables bound");
        LazyPatMatch x = ofArity(1);
        Writer w = new Writer(x).clause();
        info(x, "first clause", 1, 0, 0, 0, 0, 0, 0, 0);
        w.con(6).var(7).var(2).gives(7).gives(2);
        info(x, "first clause written", 1, 3, 2, 0, 1, 0, 132, 2);
        w.clause();
        info(x, "second clause", 2, 3, 2, 0, 0, 0, 0, 0);
        Refused.alt(x, NO_GUARD, 0, 7);
        w.var(2).gives(2);
        info(x, "second clause written", 2, 4, 3, 0, 1, 0, 4, 1);
    }

    private static void clauseOnceCompiled() {
        Checks.sentence("4.1: clause refused when the program is compiled");
        for (int arity = 1; arity <= 3; arity++) {
            Refused.clause(compiled(arity), "once compiled");
        }
    }

    private static void clauseNeedsACompleteOne() {
        Checks.sentence("4.2: clause refused when a current clause is not complete");
        for (int arity = 1; arity <= 3; arity++) {
            LazyPatMatch x = ofArity(arity);
            Writer w = new Writer(x);
            for (int k = 0; k < 2; k++) {
                w.clause();
                Refused.clause(x, "with no pattern");
                for (int i = 0; i < arity; i++) {
                    w.con(6).wild();
                    Refused.clause(x, "with an open pattern");
                    w.wild();
                    Refused.clause(x, "with " + (i + 1) + " patterns and no alternative");
                }
                w.gives(8);
            }
            w.clause();
        }
    }

    private static void atMostEightClauses() {
        Checks.sentence("4.3: clause refused when the clause count == MAX_CLAUSES");
        LazyPatMatch x = ofArity(1);
        for (int k = 0; k < LazyPatMatch.MAX_CLAUSES; k++) {
            new Writer(x).clause().var(k).gives(k);
            Checks.due("clauses", x.progInfo(LazyPatMatch.PI_CLAUSES), k + 1);
        }
        Refused.clause(x, "beyond eight");
        info(x, "eight clauses", 8, 8, 8, 0, 1, 0, 128, 1);
        new Writer(x).gives(8).compile();
        Refused.clause(x, "beyond eight, compiled");
    }

    private static void patOnceCompiled() {
        Checks.sentence("5.1: pat refused when the program is compiled");
        LazyPatMatch x = compiled(1);
        for (int kind = WILD; kind <= LAZY; kind++) {
            Refused.pat(x, kind, 0);
        }
    }

    private static void patWithoutAClause() {
        Checks.sentence("5.2: pat refused when there is no current clause");
        LazyPatMatch x = ofArity(1);
        LazyPatMatch reset = compiled(1);
        reset.resetProgram();
        for (int kind = WILD; kind <= LAZY; kind++) {
            Refused.pat(x, kind, 0);
            Refused.pat(reset, kind, 0);
        }
    }

    private static void patBeyondTheArity() {
        Checks.sentence("5.3: pat refused when done == ARITY");
        for (int arity = 1; arity <= 3; arity++) {
            LazyPatMatch x = ofArity(arity);
            Writer w = new Writer(x).clause();
            for (int i = 0; i < arity; i++) {
                w.con(4).wild();
            }
            for (int kind = WILD; kind <= LAZY; kind++) {
                Refused.pat(x, kind, 0);
            }
            w.gives(8);
            for (int kind = WILD; kind <= LAZY; kind++) {
                Refused.pat(x, kind, 0);
            }
        }
    }

    private static void patOfAWrongKind() {
        Checks.sentence("5.4: pat refused when kind is not in 0..4");
        LazyPatMatch x = ofArity(2);
        Writer w = new Writer(x).clause();
        for (int kind : Outside.of(0, 4)) {
            Refused.pat(x, kind, 0);
        }
        w.con(6);
        for (int kind : Outside.of(0, 4)) {
            Refused.pat(x, kind, 0);
        }
        w.wild().wild().wild();
        info(x, "the right kinds", 1, 4, 0, 0, 2, 0, 0, 0);
    }

    private static void atMostSixtyFourTokens() {
        Checks.sentence("5.5: pat refused when the token count == MAX_TOKENS");
        LazyPatMatch x = ofArity(1);
        Writer w = new Writer(x).clause();
        for (int i = 0; i < LazyPatMatch.MAX_TOKENS - 1; i++) {
            w.bang();
        }
        w.con(6);
        info(x, "64 tokens", 1, 64, 0, 0, 0, 2, 0, 0);
        for (int kind = WILD; kind <= LAZY; kind++) {
            Refused.pat(x, kind, 0);
        }
        Refused.alt(x, NO_GUARD, 0, 8);
        Refused.clause(x, "that can't be completed");
        Refused.compile(x, "of a clause that can't be completed");
    }

    private static void tokensOfAllClausesCount() {
        Checks.sentence("5.5: the token count over all clauses");
        LazyPatMatch x = ofArity(1);
        Writer w = new Writer(x);
        for (int k = 0; k < 4; k++) {
            w.clause();
            for (int i = 0; i < 15; i++) {
                w.lazy();
            }
            w.wild().gives(11);
        }
        info(x, "64 tokens in four clauses", 4, 64, 4, 0, 1, 0, 0, 1);
        w.clause();
        Refused.pat(x, WILD, 0);
        Refused.pat(x, VAR, 0);
        Refused.pat(x, CON, 0);
        info(x, "a clause without room", 5, 64, 4, 0, 0, 0, 0, 0);
        Refused.compile(x, "without room for a pattern");
    }

    private static void patOfAWrongVariable() {
        Checks.sentence("5.6: pat refused for P_VAR when x is not in 0..7");
        LazyPatMatch x = ofArity(1);
        Writer w = new Writer(x).clause().con(6);
        for (int v : Outside.of(0, 7)) {
            Refused.pat(x, VAR, v);
        }
        w.var(0).var(7);
        info(x, "the least and the greatest", 1, 3, 0, 0, 1, 0, 129, 0);
    }

    private static void patOfABoundVariable() {
        Checks.sentence("5.6: pat refused for P_VAR when x is already bound in this clause");
        LazyPatMatch x = ofArity(3);
        Writer w = new Writer(x).clause();
        w.con(6).con(6).con(6).var(0).var(1).con(6).var(2).var(3).con(6);
        for (int v = 0; v < 4; v++) {
            Refused.pat(x, VAR, v);
        }
        w.lazy().var(4).bang().var(5);
        info(x, "six variables", 1, 13, 0, 0, 1, 0, 63, 0);
        Refused.pat(x, VAR, 4);
        w.var(6);
        Refused.pat(x, VAR, 0);
        Refused.pat(x, VAR, 6);
        w.var(7);
        info(x, "eight variables", 1, 15, 0, 0, 3, 0, 255, 0);
        Checks.sentence("5.6: a variable bound in another clause only is taken");
        w.gives(7).clause().var(7).var(0);
        info(x, "the second clause", 2, 17, 1, 0, 2, 0, 129, 0);
        Refused.pat(x, VAR, 7);
        x.resetProgram();
        w.clause().var(7);
        info(x, "after a reset", 1, 1, 0, 0, 1, 0, 128, 0);
    }

    private static void patOfAWrongTag() {
        Checks.sentence("5.7: pat refused for P_CON when x is not in 0..7");
        LazyPatMatch x = ofArity(2);
        Writer w = new Writer(x).clause();
        for (int tag : Outside.of(0, 7)) {
            Refused.pat(x, CON, tag);
        }
        w.con(7).con(0);
        for (int tag : Outside.of(0, 7)) {
            Refused.pat(x, CON, tag);
        }
        w.con(3);
        info(x, "the right tags", 1, 3, 0, 0, 1, 0, 0, 0);
    }

    private static void patIgnoresX() {
        Checks.sentence("5: x is ignored for P_WILD, P_BANG and P_LAZY");
        for (int far : Outside.of(0, 7)) {
            LazyPatMatch x = ofArity(2);
            new Writer(x).clause().token(BANG, far).token(WILD, far).token(LAZY, far).token(WILD, far);
            info(x, "x ignored", 1, 4, 0, 0, 2, 0, 0, 0);
        }
        LazyPatMatch x = ofArity(2);
        new Writer(x).clause().var(3).token(BANG, 3).token(LAZY, 3).token(WILD, 3);
        info(x, "x a bound variable", 1, 4, 0, 0, 2, 0, 8, 0);
    }

    private static void patCounts() {
        Checks.sentence("5: open, done, bound and the token count after each token");
        LazyPatMatch x = ofArity(3);
        Writer w = new Writer(x).clause();
        w.con(6);
        info(x, "con 6", 1, 1, 0, 0, 0, 2, 0, 0);
        w.bang();
        info(x, "bang", 1, 2, 0, 0, 0, 2, 0, 0);
        w.con(5);
        info(x, "con 5", 1, 3, 0, 0, 0, 2, 0, 0);
        w.var(0);
        info(x, "var 0", 1, 4, 0, 0, 0, 1, 1, 0);
        w.con(7);
        info(x, "con 7", 1, 5, 0, 0, 0, 2, 1, 0);
        w.con(3);
        info(x, "con 3", 1, 6, 0, 0, 0, 1, 1, 0);
        w.wild();
        info(x, "wild", 1, 7, 0, 0, 1, 0, 1, 0);
        w.lazy();
        info(x, "lazy", 1, 8, 0, 0, 1, 1, 1, 0);
        w.lazy();
        info(x, "lazy in lazy", 1, 9, 0, 0, 1, 1, 1, 0);
        w.con(4);
        info(x, "con 4", 1, 10, 0, 0, 1, 1, 1, 0);
        w.var(6);
        info(x, "var 6", 1, 11, 0, 0, 2, 0, 65, 0);
        w.con(0);
        info(x, "con 0", 1, 12, 0, 0, 3, 0, 65, 0);
    }

    private static void aRefusedPatBindsNothing() {
        Checks.sentence("5: a refused pat changes nothing");
        LazyPatMatch x = ofArity(1);
        Writer w = new Writer(x).clause();
        Refused.pat(x, 5, 2);
        Refused.pat(x, VAR, 34);
        w.var(3);
        Refused.pat(x, VAR, 2);
        Refused.alt(x, NO_GUARD, 0, 2);
        Refused.alt(x, 2, 0, 8);
        w.gives(3);
        info(x, "one variable", 1, 1, 1, 0, 1, 0, 8, 1);
    }

    private static void altOnceCompiled() {
        Checks.sentence("6.1: alt refused when the program is compiled");
        LazyPatMatch x = compiled(1);
        Refused.alt(x, NO_GUARD, 0, 8);
        Refused.alt(x, NO_GUARD, 0, 5);
        Refused.alt(x, 5, 0, 5);
    }

    private static void altWithoutAClause() {
        Checks.sentence("6.2: alt refused when there is no current clause");
        LazyPatMatch x = ofArity(1);
        Refused.alt(x, NO_GUARD, 0, 8);
        LazyPatMatch reset = compiled(1);
        reset.resetProgram();
        Refused.alt(reset, NO_GUARD, 0, 8);
        Refused.alt(reset, 5, 0, 5);
    }

    private static void altBeforeAllPatterns() {
        Checks.sentence("6.3: alt refused when done < ARITY");
        for (int arity = 1; arity <= 3; arity++) {
            LazyPatMatch x = ofArity(arity);
            Writer w = new Writer(x).clause();
            for (int i = 0; i < arity; i++) {
                Refused.alt(x, NO_GUARD, 0, 8);
                w.con(4);
                Refused.alt(x, NO_GUARD, 0, 8);
                w.var(i);
            }
            w.gives(8);
            w.clause();
            Refused.alt(x, NO_GUARD, 0, 8);
            Refused.alt(x, 0, 0, 0);
        }
    }

    private static void atMostSixteenAlternatives() {
        Checks.sentence("6.4: alt refused when the alternative count over all clauses == MAX_ALTS");
        LazyPatMatch x = ofArity(1);
        Writer w = new Writer(x).clause().var(2);
        for (int i = 0; i < 16; i++) {
            w.gives(8);
            info(x, "alternatives", 1, 1, i + 1, 0, 1, 0, 4, i + 1);
        }
        Refused.alt(x, NO_GUARD, 0, 8);
        Refused.alt(x, 2, 0, 2);
        w.clause().var(2);
        Refused.alt(x, NO_GUARD, 0, 8);
        Refused.compile(x, "without room for an alternative");
        alternativesOfTwoClauses();
    }

    private static void alternativesOfTwoClauses() {
        LazyPatMatch x = ofArity(1);
        Writer w = new Writer(x).clause().wild();
        for (int i = 0; i < 9; i++) {
            w.gives(8);
        }
        w.clause().var(1);
        for (int i = 0; i < 7; i++) {
            w.when(1, i, 1);
        }
        info(x, "sixteen alternatives", 2, 2, 16, 0, 1, 0, 2, 7);
        Refused.alt(x, NO_GUARD, 0, 8);
        Refused.alt(x, 1, 7, 1);
    }

    /** A current clause with the variables 3 and 5, after one with all variables. */
    private static LazyPatMatch threeAndFive() {
        LazyPatMatch x = ofArity(2);
        Writer w = new Writer(x).clause();
        for (int i = 0; i < 2; i++) {
            w.con(6).con(6).var(4 * i).var(4 * i + 1).con(6).var(4 * i + 2).var(4 * i + 3);
        }
        w.gives(8).clause().var(3).con(4).var(5);
        return x;
    }

    private static void altOfAWrongGuardVariable() {
        Checks.sentence("6.5: alt refused when gvar is not NO_GUARD and not in 0..7");
        LazyPatMatch x = threeAndFive();
        for (int gvar : Outside.of(0, 7)) {
            if (gvar != NO_GUARD) {
                Refused.alt(x, gvar, 0, 8);
                Refused.alt(x, gvar, 0, 3);
            }
        }
        Refused.alt(x, -2, 0, 8);
        Refused.alt(x, 35, 0, 8);
        Refused.alt(x, 3 - 32, 0, 8);
    }

    private static void altOfAnUnboundGuardVariable() {
        Checks.sentence("6.5: alt refused when gvar is not bound in this clause");
        LazyPatMatch x = threeAndFive();
        for (int gvar : new int[] {0, 1, 2, 4, 6, 7}) {
            Refused.alt(x, gvar, 0, 8);
            Refused.alt(x, gvar, 0, 5);
        }
        new Writer(x).when(3, 0, 8).when(5, 0, 8);
    }

    private static void altOfAWrongGuardTag() {
        Checks.sentence("6.6: alt refused when gvar is not NO_GUARD and gtag is not in 0..7");
        LazyPatMatch x = threeAndFive();
        for (int gtag : Outside.of(0, 7)) {
            Refused.alt(x, 3, gtag, 8);
            Refused.alt(x, 5, gtag, 3);
        }
        new Writer(x).when(3, 0, 8).when(5, 7, 3);
    }

    private static void altWithoutAGuardIgnoresItsTag() {
        Checks.sentence("6: gtag is ignored when gvar == NO_GUARD");
        LazyPatMatch x = threeAndFive();
        for (int gtag : Outside.of(0, 7)) {
            new Writer(x).when(NO_GUARD, gtag, 8);
        }
    }

    private static void altOfAWrongRhs() {
        Checks.sentence("6.7: alt refused when rhs is not in 0..11");
        LazyPatMatch x = threeAndFive();
        for (int rhs : Outside.of(0, 11)) {
            Refused.alt(x, NO_GUARD, 0, rhs);
            Refused.alt(x, 3, 0, rhs);
        }
        Refused.alt(x, NO_GUARD, 0, 35);
        Refused.alt(x, NO_GUARD, 0, 3 - 32);
    }

    private static void altOfAnUnboundRhs() {
        Checks.sentence("6.8: alt refused when rhs is a variable that is not bound in this clause");
        LazyPatMatch x = threeAndFive();
        for (int rhs : new int[] {0, 1, 2, 4, 6, 7}) {
            Refused.alt(x, NO_GUARD, 0, rhs);
            Refused.alt(x, 5, 7, rhs);
        }
        new Writer(x).gives(3).when(3, 0, 5);
    }

    private static void altTakesTheEdges() {
        Checks.sentence("6: the least and the greatest gvar, gtag and rhs are taken");
        LazyPatMatch x = ofArity(1);
        Writer w = new Writer(x).clause().con(7).var(0).var(7);
        w.when(0, 0, 0).when(7, 7, 7).when(0, 7, 7).when(7, 0, 0);
        info(x, "variables", 1, 3, 4, 0, 1, 0, 129, 4);
        Checks.sentence("6: rhs 8..11 needs no variable");
        w.gives(8).gives(9).gives(10).gives(11);
        LazyPatMatch wild = ofArity(1);
        new Writer(wild).clause().wild().gives(8).gives(9).gives(10).gives(11);
        info(wild, "constants", 1, 1, 4, 0, 1, 0, 0, 4);
    }

    private static void compileOnceCompiled() {
        Checks.sentence("7.1: compile refused when the program is already compiled");
        for (int arity = 1; arity <= 3; arity++) {
            Refused.compile(compiled(arity), "once compiled");
        }
    }

    private static void compileWithoutAClause() {
        Checks.sentence("7.2: compile refused when there is no clause");
        LazyPatMatch x = ofArity(1);
        Refused.compile(x, "fresh");
        LazyPatMatch reset = compiled(1);
        reset.resetProgram();
        Refused.compile(reset, "after a reset");
    }

    private static void compileNeedsACompleteClause() {
        Checks.sentence("7.3: compile refused when the current clause is not complete");
        for (int arity = 1; arity <= 3; arity++) {
            LazyPatMatch x = ofArity(arity);
            Writer w = new Writer(x);
            for (int k = 0; k < 2; k++) {
                w.clause();
                Refused.compile(x, "with no pattern");
                for (int i = 0; i < arity; i++) {
                    w.lazy();
                    Refused.compile(x, "with an open pattern");
                    w.wild();
                    Refused.compile(x, "with " + (i + 1) + " patterns and no alternative");
                }
                w.gives(8);
            }
            w.compile();
        }
    }

    private static void compileChangesNothingElse() {
        Checks.sentence("7: nothing else changes; the current clause stays");
        LazyPatMatch x = compiled(1);
        x.cell(LazyPatMatch.CELL_THUNK, 5, 0, 0);
        x.cell(LazyPatMatch.CELL_IND, 0, 0, 0);
        Checks.due("run of a former program", x.run(0, 1, 0, 0), LazyPatMatch.RES_VALUE);
        x.resetProgram();
        String outcome = Snapshot.outcome(x);
        String heap = Snapshot.heap(x);
        new Writer(x).clause().wild().gives(8).clause().con(4).var(2).when(2, 1, 2).gives(9);
        info(x, "written", 2, 3, 3, 0, 1, 0, 4, 2);
        Snapshot.same("writing a program", outcome, Snapshot.outcome(x));
        Snapshot.same("writing a program", heap, Snapshot.heap(x));
        new Writer(x).compile();
        info(x, "compiled", 2, 3, 3, 1, 1, 0, 4, 2);
        Snapshot.same("compile", outcome, Snapshot.outcome(x));
        Snapshot.same("compile", heap, Snapshot.heap(x));
    }

    private static void refusedUntilReset() {
        Checks.sentence("7: from then on clause, pat, alt and compile are refused until resetProgram");
        LazyPatMatch x = compiled(2);
        x.cell(LazyPatMatch.CELL_THUNK, 5, 0, 0);
        Refused.writing(x, "once compiled");
        Checks.due("run", x.run(0, 0, 0, 0), LazyPatMatch.RES_VALUE);
        Refused.writing(x, "after a run");
        x.clearHeap();
        Refused.writing(x, "after clearHeap");
        x.resetProgram();
        new Writer(x).clause().wild().var(1).gives(1).compile();
        Refused.writing(x, "compiled again");
    }

    private static void resetOfEachProgram() {
        Checks.sentence("8: all clauses, tokens and alternatives are gone; no current clause");
        LazyPatMatch fresh = ofArity(2);
        resetForgets(fresh, "fresh");
        LazyPatMatch started = ofArity(2);
        new Writer(started).clause();
        resetForgets(started, "started");
        LazyPatMatch opened = ofArity(2);
        new Writer(opened).clause().var(0).con(6).var(1);
        resetForgets(opened, "opened");
        LazyPatMatch complete = ofArity(2);
        new Writer(complete).clause().var(0).var(1).gives(1);
        resetForgets(complete, "complete");
        Checks.sentence("8: the program is not compiled");
        LazyPatMatch compiled = compiled(2);
        resetForgets(compiled, "compiled");
        resetForgets(compiled, "reset");
    }

    private static void resetForgets(LazyPatMatch x, String when) {
        x.resetProgram();
        info(x, "reset of one " + when, 0, 0, 0, 0, 0, 0, 0, 0);
        Refused.pat(x, WILD, 0);
        Refused.alt(x, NO_GUARD, 0, 8);
        Refused.compile(x, "after the reset of one " + when);
        x.cell(LazyPatMatch.CELL_THUNK, 3, 0, 0);
        Refused.run(x, "after the reset of one " + when, 0, 0, 0, 0);
        new Writer(x).clause();
        info(x, "clause after a reset", 1, 0, 0, 0, 0, 0, 0, 0);
        new Writer(x).wild().var(1).gives(1).compile();
        Checks.due("run of the new program", x.run(1, 0, 0, 0), LazyPatMatch.RES_VALUE);
        Checks.due("its tag", x.last(LazyPatMatch.LAST_TAG), 3);
        x.resetProgram();
    }

    private static void resetLeavesTheRest() {
        Checks.sentence("8: the heap, the log and the last result are unchanged");
        LazyPatMatch x = ofArity(1);
        x.cell(LazyPatMatch.CELL_THUNK, 5, 0, 0);
        x.cell(LazyPatMatch.CELL_IND, 0, 0, 0);
        x.cell(LazyPatMatch.CELL_BOTTOM, 0, 0, 0);
        new Writer(x).clause().con(5).var(2).when(2, 5, 2).compile();
        Checks.due("run", x.run(LazyPatMatch.MODE_CLAUSES, 1, 0, 0), LazyPatMatch.RES_VALUE);
        String outcome = Snapshot.outcome(x);
        String heap = Snapshot.heap(x);
        for (int i = 0; i < 2; i++) {
            x.resetProgram();
            Snapshot.same("resetProgram", outcome, Snapshot.outcome(x));
            Snapshot.same("resetProgram", heap, Snapshot.heap(x));
        }
        Checks.due("the next id", x.cell(LazyPatMatch.CELL_IND, 0, 3, 0), 3);
    }

    /** Eight clauses of eight tokens with two alternatives each: all the room that there is. */
    private static void roomAfterAReset() {
        Checks.sentence("8: a full program is removed, and its room is free again");
        LazyPatMatch x = ofArity(1);
        for (int i = 0; i < 3; i++) {
            Writer w = new Writer(x);
            for (int k = 0; k < 8; k++) {
                w.clause().bang().bang().bang().bang().bang().bang().bang().var(k).gives(k).gives(8);
            }
            info(x, "a full program", 8, 64, 16, 0, 1, 0, 128, 2);
            Refused.clause(x, "in a full program");
            Refused.alt(x, NO_GUARD, 0, 8);
            w.compile();
            x.resetProgram();
            info(x, "reset", 0, 0, 0, 0, 0, 0, 0, 0);
        }
    }

    private static void progInfoWithoutAClause() {
        Checks.sentence("12: done, open, bound and alternatives are 0 when there is no current clause");
        LazyPatMatch x = ofArity(1);
        info(x, "fresh", 0, 0, 0, 0, 0, 0, 0, 0);
        new Writer(x).clause().con(6).var(7);
        info(x, "an open clause", 1, 2, 0, 0, 0, 1, 128, 0);
        x.resetProgram();
        info(x, "reset", 0, 0, 0, 0, 0, 0, 0, 0);
        new Writer(x).clause().var(7).gives(7).gives(7).compile();
        info(x, "compiled", 1, 1, 2, 1, 1, 0, 128, 2);
        x.resetProgram();
        info(x, "reset", 0, 0, 0, 0, 0, 0, 0, 0);
    }

    private static void progInfoOfBoundVariables() {
        Checks.sentence("12: PI_BOUND is the sum of 2^x over the bound variables");
        for (int v = 0; v <= 7; v++) {
            LazyPatMatch x = ofArity(1);
            new Writer(x).clause().var(v);
            info(x, "variable " + v, 1, 1, 0, 0, 1, 0, 1 << v, 0);
        }
        LazyPatMatch x = ofArity(1);
        Writer w = new Writer(x).clause();
        for (int v = 7; v >= 0; v--) {
            w.con(6).var(v);
            Checks.due("PI_BOUND", x.progInfo(LazyPatMatch.PI_BOUND), 256 - (1 << v));
        }
    }

    private static void progInfoOtherSelectors() {
        Checks.sentence("12: any other what: -1; nothing changes");
        LazyPatMatch open = ofArity(1);
        new Writer(open).clause().con(6).var(0);
        LazyPatMatch[] objects = {ofArity(1), open, compiled(3)};
        for (LazyPatMatch x : objects) {
            String before = Snapshot.of(x);
            for (int what : Outside.of(0, 7)) {
                Checks.due("progInfo(" + what + ")", x.progInfo(what), -1);
            }
            Snapshot.same("progInfo", before, Snapshot.of(x));
        }
    }
}
