/** The example of README.md, call by call, with the answers that it tells. */
public final class ExampleTest {
    public static void main(String[] args) {
        LazyPatMatch x = new LazyPatMatch(2, 16);
        int one = x.cell(LazyPatMatch.CELL_THUNK, 1, 0, 0);
        int box = x.cell(LazyPatMatch.CELL_THUNK, 4, one, 0);
        int zero = x.cell(LazyPatMatch.CELL_THUNK, 0, 0, 0);
        int error = x.cell(LazyPatMatch.CELL_BOTTOM, 0, 0, 0);

        Checks.accepted("clause()", x.clause());
        Checks.accepted("~", x.pat(LazyPatMatch.P_LAZY, 0));
        Checks.accepted("4", x.pat(LazyPatMatch.P_CON, 4));
        Checks.accepted("a", x.pat(LazyPatMatch.P_VAR, 0));
        Checks.accepted("b", x.pat(LazyPatMatch.P_VAR, 1));
        Checks.accepted("b evaluates to 0", x.alt(1, 0, LazyPatMatch.RHS_CONST + 3));
        Checks.accepted("otherwise", x.alt(LazyPatMatch.NO_GUARD, 0, 0));
        Checks.accepted("compile()", x.compile());

        Checks.due("f error zero", x.run(LazyPatMatch.MODE_CLAUSES, error, zero, 0), LazyPatMatch.RES_VALUE);
        Checks.due("tag of f error zero", x.last(LazyPatMatch.LAST_TAG), 3);
        Checks.due("cell of f error zero", x.last(LazyPatMatch.LAST_CELL), -1);

        Checks.due("f box one", x.run(LazyPatMatch.MODE_CLAUSES, box, one, 0), LazyPatMatch.RES_VALUE);
        Checks.due("alternative of f box one", x.last(LazyPatMatch.LAST_ALT), 1);
        Checks.due("cell of f box one", x.last(LazyPatMatch.LAST_CELL), one);
        Checks.due("log length of f box one", x.last(LazyPatMatch.LAST_LOGLEN), 2);
        Checks.due("first forced by f box one", x.logAt(0), one);
        Checks.due("second forced by f box one", x.logAt(1), box);

        Checks.due("f error one", x.run(LazyPatMatch.MODE_CLAUSES, error, one, 0), LazyPatMatch.RES_BOTTOM);
        Checks.end();
    }
}
