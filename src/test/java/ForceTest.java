/** Promise 9: FORCE, in both modes. */
public final class ForceTest {
    private static final int RES_VALUE = LazyPatMatch.RES_VALUE;
    private static final int RES_BOTTOM = LazyPatMatch.RES_BOTTOM;

    private static Bench b;

    public static void main(String[] args) {
        for (int mode = LazyPatMatch.MODE_CLAUSES; mode <= LazyPatMatch.MODE_TREE; mode++) {
            b = new Bench(mode);
            eachState();
            chains();
            copies();
        }
        Checks.end();
    }

    private static void eachState() {
        b.program(1).bang().wild().gives(8).compile();
        b.heap(Bench.value(1, 0, 0), Bench.thunk(6, 0, 1), Bench.bottom(), Bench.ind(0), Bench.ind(1));
        b.run("VALUE", RES_VALUE, 0);
        b.log("VALUE");
        b.run("THUNK", RES_VALUE, 1);
        b.log("THUNK", 1);
        b.contents("THUNK", 1, 6, 0, 1);
        b.run("BOTTOM", RES_BOTTOM, 2);
        b.outcome("BOTTOM", 0, -1, -1, -1);
        b.log("BOTTOM", 2);
        b.run("IND of a VALUE", RES_VALUE, 3);
        b.log("IND of a VALUE", 3);
        b.contents("IND of a VALUE", 3, 1, -1, -1);
        b.states("all", Bench.VALUE, Bench.VALUE, Bench.BOTTOM, Bench.VALUE, Bench.IND);
        b.run("BOTTOM again", RES_BOTTOM, 2);
        b.log("BOTTOM again", 2);
    }

    private static void chains() {
        b.program(2).bang().wild().bang().wild().gives(8).compile();
        b.heap(Bench.thunk(4), Bench.ind(0), Bench.ind(1), Bench.ind(2), Bench.bottom(), Bench.ind(4),
                Bench.ind(5));
        b.run("from the middle", RES_VALUE, 1, 3);
        b.log("from the middle", 1, 0, 3, 2);
        for (int c = 0; c < 4; c++) {
            b.contents("from the middle", c, 4, 0, -1);
        }
        b.run("to BOTTOM", RES_BOTTOM, 0, 6);
        b.log("to BOTTOM", 6, 5, 4);
        b.states("to BOTTOM", Bench.VALUE, Bench.VALUE, Bench.VALUE, Bench.VALUE, Bench.BOTTOM,
                Bench.IND, Bench.IND);
        b.contents("to BOTTOM", 5, -1, 4, -1);
        b.contents("to BOTTOM", 6, -1, 5, -1);
        b.run("to BOTTOM again", RES_BOTTOM, 5, 6);
        b.log("to BOTTOM again", 5, 4);
    }

    /** A cell updated in place has the fields of the cell that it evaluated to. */
    private static void copies() {
        b.program(1).con(6).var(0).con(5).var(1).when(0, 2, 1).compile();
        b.heap(Bench.thunk(2), Bench.thunk(5), Bench.ind(1), Bench.thunk(6, 0, 2), Bench.ind(3),
                Bench.ind(4));
        b.run("through INDs", RES_VALUE, 5);
        b.outcome("through INDs", 0, 0, 2, 0);
        b.log("through INDs", 5, 4, 3, 2, 1, 0);
        b.contents("through INDs", 2, 5, 0, -1);
        b.contents("through INDs", 4, 6, 0, 2);
        b.contents("through INDs", 5, 6, 0, 2);
    }
}
