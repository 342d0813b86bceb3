/** Promise 9: DEMAND and irrefutable patterns, in both modes. */
public final class DemandTest {
    private static final int RES_VALUE = LazyPatMatch.RES_VALUE;
    private static final int RES_NOMATCH = LazyPatMatch.RES_NOMATCH;
    private static final int RES_BOTTOM = LazyPatMatch.RES_BOTTOM;
    private static final int RES_LOOP = LazyPatMatch.RES_LOOP;
    private static final int RES_LAZYFAIL = LazyPatMatch.RES_LAZYFAIL;

    private static Bench b;

    public static void main(String[] args) {
        for (int mode = LazyPatMatch.MODE_CLAUSES; mode <= LazyPatMatch.MODE_TREE; mode++) {
            b = new Bench(mode);
            plainVariables();
            oneLazy();
            theWholeSubpatternMatches();
            errorsUnderLazy();
            nestedLazies();
            nestedFailures();
            lazyOfAVariable();
            lazyUnderBangAndField();
            onlyTheLaziesAboveTheVariable();
            lazyFailureInALaterAlternative();
            laterRuns();
        }
        Checks.end();
    }

    private static void plainVariables() {
        b.program(1).con(6).var(7).var(0).when(7, 0, 0).when(7, 1, 7).compile();
        b.heap(Bench.thunk(0), Bench.ind(0), Bench.thunk(6, 1, 2), Bench.thunk(1), Bench.ind(3),
                Bench.value(6, 4, 5));
        b.run("guard and rhs differ", RES_VALUE, 2);
        b.outcome("guard and rhs differ", 0, 0, 6, 2);
        b.log("guard and rhs differ", 2, 1, 0);
        b.run("guard and rhs are one", RES_VALUE, 5);
        b.outcome("guard and rhs are one", 0, 1, 1, 4);
        b.log("guard and rhs are one", 4, 3);
    }

    private static void oneLazy() {
        b.program(2).lazy().con(6).var(0).var(1).var(2).when(2, 0, 8).gives(1).compile();
        b.heap(Bench.thunk(0), Bench.thunk(1), Bench.thunk(2), Bench.thunk(6, 1, 2), Bench.thunk(5));
        b.run("not demanded", RES_VALUE, 3, 0);
        b.outcome("not demanded", 0, 0, 0, -1);
        b.log("not demanded", 0);
        b.run("demanded", RES_VALUE, 3, 1);
        b.outcome("demanded", 0, 1, 2, 2);
        b.log("demanded", 1, 3, 2);
        b.run("demanded in vain", RES_LAZYFAIL, 4, 1);
        b.outcome("demanded in vain", 0, 1, -1, -1);
        b.log("demanded in vain", 4);
    }

    /** A part of the subpattern that stands after the variable is matched too, before its FORCE. */
    private static void theWholeSubpatternMatches() {
        b.program(1).lazy().con(6).var(0).con(4).bang().wild().gives(0)
                .clause().wild().gives(8).compile();
        b.heap(Bench.thunk(0), Bench.thunk(4, 0, 0), Bench.thunk(2), Bench.thunk(6, 2, 1),
                Bench.thunk(6, 2, 0), Bench.bottom(), Bench.thunk(6, 5, 1));
        b.run("all of it matches", RES_VALUE, 3);
        b.outcome("all of it matches", 0, 0, 2, 2);
        b.log("all of it matches", 3, 1, 0, 2);
        b.run("what follows fails", RES_LAZYFAIL, 4);
        b.outcome("what follows fails", 0, 0, -1, -1);
        b.log("what follows fails", 4);
        b.run("the variable's cell is BOTTOM", RES_BOTTOM, 6);
        b.log("the variable's cell is BOTTOM", 6, 5);
    }

    private static void errorsUnderLazy() {
        b.program(1).lazy().con(4).bang().var(3).when(3, 0, 9).gives(3).compile();
        b.heap(Bench.bottom(), Bench.thunk(4, 0, 0), Bench.ind(2), Bench.thunk(4, 2, 0), Bench.thunk(5));
        b.run("BOTTOM at the site", RES_BOTTOM, 0);
        b.outcome("BOTTOM at the site", 0, 0, -1, -1);
        b.log("BOTTOM at the site", 0);
        b.run("BOTTOM below the site", RES_BOTTOM, 1);
        b.log("BOTTOM below the site", 1, 0);
        b.run("a loop at the site", RES_LOOP, 2);
        b.log("a loop at the site", 2);
        b.run("a loop below the site", RES_LOOP, 3);
        b.outcome("a loop below the site", 0, 0, -1, -1);
        b.log("a loop below the site", 3, 2);
        b.run("a failure", RES_LAZYFAIL, 4);
        b.outcome("a failure", 0, 0, -1, -1);
        b.log("a failure", 4);
    }

    private static void nestedLazies() {
        b.program(1).lazy().con(6).var(0).lazy().con(7).lazy().con(4).var(1).var(2)
                .when(0, 1, 0).when(2, 2, 2).when(1, 3, 1).gives(8).compile();
        b.heap(Bench.thunk(0), Bench.thunk(1), Bench.thunk(2), Bench.thunk(3), Bench.thunk(4, 3, 0),
                Bench.thunk(7, 4, 2), Bench.thunk(6, 1, 5), Bench.thunk(6, 0, 5), Bench.thunk(7, 4, 0),
                Bench.thunk(6, 0, 8));
        b.run("the outer one only", RES_VALUE, 6);
        b.outcome("the outer one only", 0, 0, 1, 1);
        b.log("the outer one only", 6, 1);
        b.run("two of them", RES_VALUE, 7);
        b.outcome("two of them", 0, 1, 2, 2);
        b.log("two of them", 7, 0, 5, 2);
        b.run("all three", RES_VALUE, 9);
        b.outcome("all three", 0, 2, 3, 3);
        b.log("all three", 9, 8, 4, 3);
        b.run("all three again", RES_VALUE, 9);
        b.outcome("all three again", 0, 2, 3, 3);
        b.log("all three again");
    }

    private static void nestedFailures() {
        b.program(2).lazy().con(4).lazy().con(5).var(0).var(1).when(1, 0, 8).gives(0).compile();
        b.heap(Bench.thunk(0), Bench.thunk(1), Bench.thunk(5, 1, 0), Bench.thunk(4, 2, 0),
                Bench.thunk(4, 1, 0), Bench.bottom(), Bench.thunk(4, 5, 0));
        b.run("both match", RES_VALUE, 3, 1);
        b.outcome("both match", 0, 1, 1, 1);
        b.log("both match", 1, 3, 2);
        b.run("the inner one fails", RES_LAZYFAIL, 4, 1);
        b.outcome("the inner one fails", 0, 1, -1, -1);
        b.log("the inner one fails", 4);
        b.run("the outer one fails", RES_LAZYFAIL, 2, 1);
        b.log("the outer one fails");
        b.run("the inner one ends the run", RES_BOTTOM, 6, 1);
        b.log("the inner one ends the run", 6, 5);
        b.run("none is demanded", RES_VALUE, 5, 0);
        b.log("none is demanded", 0);
    }

    private static void lazyOfAVariable() {
        b.program(2).lazy().lazy().var(0).lazy().bang().var(1).when(0, 2, 0).when(1, 3, 1).compile();
        b.heap(Bench.thunk(2), Bench.thunk(3), Bench.bottom());
        b.run("lazy of lazy", RES_VALUE, 0, 2);
        b.outcome("lazy of lazy", 0, 0, 2, 0);
        b.log("lazy of lazy", 0);
        b.run("lazy of bang", RES_VALUE, 1, 1);
        b.outcome("lazy of bang", 0, 1, 3, 1);
        b.log("lazy of bang", 1);
        b.run("lazy of bang on BOTTOM", RES_BOTTOM, 1, 2);
        b.outcome("lazy of bang on BOTTOM", 0, 1, -1, -1);
        b.log("lazy of bang on BOTTOM", 2);
    }

    private static void lazyUnderBangAndField() {
        b.program(1).bang().lazy().con(6).bang().var(0).lazy().con(4).var(1).when(0, 1, 0).gives(1)
                .compile();
        b.heap(Bench.thunk(1), Bench.thunk(2), Bench.thunk(4, 1, 0), Bench.thunk(6, 0, 2),
                Bench.thunk(6, 1, 2), Bench.bottom());
        b.run("bang of lazy", RES_VALUE, 3);
        b.outcome("bang of lazy", 0, 0, 1, 0);
        b.log("bang of lazy", 3, 0);
        b.run("down to the field", RES_VALUE, 4);
        b.outcome("down to the field", 0, 1, 2, 1);
        b.log("down to the field", 4, 1, 2);
        b.run("bang of lazy on BOTTOM", RES_BOTTOM, 5);
        b.outcome("bang of lazy on BOTTOM", 0, -1, -1, -1);
    }

    /** Two lazy siblings in one pattern, and strict parts between them. */
    private static void onlyTheLaziesAboveTheVariable() {
        b.program(2).con(6).lazy().con(4).var(0).lazy().con(5).var(1).lazy().con(7).var(2).wild()
                .when(1, 0, 1).when(2, 1, 2).gives(0).compile();
        b.heap(Bench.bottom(), Bench.thunk(0), Bench.thunk(1), Bench.thunk(5, 1, 0), Bench.thunk(6, 0, 3),
                Bench.thunk(5, 2, 0), Bench.thunk(6, 0, 5), Bench.thunk(7, 2, 0), Bench.thunk(7, 1, 0));
        b.run("the second sibling", RES_VALUE, 4, 0);
        b.outcome("the second sibling", 0, 0, 0, 1);
        b.log("the second sibling", 4, 3, 1);
        b.run("the second argument", RES_VALUE, 6, 7);
        b.outcome("the second argument", 0, 1, 1, 2);
        b.log("the second argument", 6, 5, 2, 7);
        b.run("the first sibling", RES_BOTTOM, 6, 8);
        b.outcome("the first sibling", 0, 2, -1, -1);
        b.log("the first sibling", 8, 0);
    }

    /** A lazy failure ends the run: no later alternative or clause is tried. */
    private static void lazyFailureInALaterAlternative() {
        b.program(2).con(0).wild().gives(8)
                .clause().var(0).lazy().con(4).var(1).when(0, 7, 0).when(1, 7, 1).gives(9)
                .clause().wild().wild().gives(10).compile();
        b.heap(Bench.thunk(1), Bench.thunk(5, 0, 0), Bench.thunk(4, 0, 0));
        b.run("a lazy failure", RES_LAZYFAIL, 0, 1);
        b.outcome("a lazy failure", 1, 1, -1, -1);
        b.log("a lazy failure", 0, 1);
        b.run("a guard that does not hold", RES_VALUE, 0, 2);
        b.outcome("a guard that does not hold", 1, 2, 1, -1);
        b.log("a guard that does not hold", 2);
    }

    /** What a run stored is replaced whole by the next one, and heap changes stay. */
    private static void laterRuns() {
        b.program(1).con(4).bang().var(0).gives(0).clause().con(2).gives(11).compile();
        b.heap(Bench.thunk(3), Bench.thunk(4, 0, 0), Bench.thunk(2), Bench.bottom(), Bench.thunk(4, 3, 0));
        b.run("first run", RES_VALUE, 1);
        b.outcome("first run", 0, 0, 3, 0);
        b.log("first run", 1, 0);
        b.run("constant after a cell", RES_VALUE, 2);
        b.outcome("constant after a cell", 1, 0, 3, -1);
        b.log("constant after a cell", 2);
        b.run("error after a value", RES_BOTTOM, 4);
        b.outcome("error after a value", 0, -1, -1, -1);
        b.log("error after a value", 4, 3);
        b.states("error after a value", Bench.VALUE, Bench.VALUE, Bench.VALUE, Bench.BOTTOM, Bench.VALUE);
        b.run("the same again", RES_BOTTOM, 4);
        b.log("the same again", 3);
        b.run("no match after an error", RES_NOMATCH, 0);
        b.outcome("no match after an error", -1, -1, -1, -1);
        b.log("no match after an error");
        b.run("first run again", RES_VALUE, 1);
        b.outcome("first run again", 0, 0, 3, 0);
        b.log("first run again");
    }
}
