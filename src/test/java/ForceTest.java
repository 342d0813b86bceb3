/** Promise 9: the refusals of run, and FORCE; each in both modes. */
public final class ForceTest {
    private static final int RES_VALUE = LazyPatMatch.RES_VALUE;
    private static final int RES_BOTTOM = LazyPatMatch.RES_BOTTOM;
    private static final int RES_LOOP = LazyPatMatch.RES_LOOP;

    private static Bench b;

    public static void main(String[] args) {
        for (int mode = LazyPatMatch.MODE_CLAUSES; mode <= LazyPatMatch.MODE_TREE; mode++) {
            b = new Bench(mode);
            refusals();
            unusedArguments();
            eachState();
            chains();
            chainsOfThirtyTwo();
            loops();
            copies();
        }
        Checks.end();
    }

    private static void refusals() {
        Writer w = b.program(3).bang().var(0).bang().var(1).bang().var(2).gives(0);
        b.heap(Bench.thunk(0), Bench.thunk(1), Bench.thunk(2));
        b.refusedRun("not compiled", b.mode, 0, 1, 2);
        w.compile();
        int[] wrongModes = {-1, 2, Integer.MIN_VALUE, Integer.MAX_VALUE};
        for (int wrongMode : wrongModes) {
            b.refusedRun("mode " + wrongMode, wrongMode, 0, 1, 2);
        }
        int[] wrongCells = {-1, 3, 32, Integer.MIN_VALUE, Integer.MAX_VALUE};
        for (int a : wrongCells) {
            b.refusedRun("a0 is " + a, b.mode, a, 1, 2);
            b.refusedRun("a1 is " + a, b.mode, 0, a, 2);
            b.refusedRun("a2 is " + a, b.mode, 0, 1, a);
        }
        b.run("three arguments", RES_VALUE, 0, 1, 0);
        b.log("three arguments", 0, 1);
        b.refusedRun("a2 is 3 after a run", b.mode, 2, 2, 3);
        b.refusedRun("mode 2 after a run", 2, 2, 2, 2);
        b.states("after the refusals", Bench.VALUE, Bench.VALUE, Bench.THUNK);
        b.x.resetProgram();
        b.refusedRun("after resetProgram", b.mode, 0, 1, 2);
    }

    private static void unusedArguments() {
        b.program(1).var(0).gives(0).compile();
        b.heap(Bench.thunk(1));
        b.run("one argument", RES_VALUE, 0, -1, 99);
        b.refusedRun("a0 is 1", b.mode, 1, 0, 0);
        b.program(2).wild().var(0).gives(0).compile();
        b.heap(Bench.thunk(1));
        b.run("two arguments", RES_VALUE, 0, 0, Integer.MAX_VALUE);
        b.run("two arguments", RES_VALUE, 0, 0, Integer.MIN_VALUE);
        b.refusedRun("a1 is 1", b.mode, 0, 1, 0);
    }

    private static void eachState() {
        b.program(1).bang().wild().gives(8).compile();
        b.heap(Bench.value(1, 0, 0), Bench.thunk(6, 0, 1), Bench.bottom(), Bench.ind(0), Bench.ind(1));
        b.run("VALUE", RES_VALUE, 0);
        b.log("VALUE");
        b.run("THUNK", RES_VALUE, 1);
        b.log("THUNK", 1);
        b.contents("THUNK", 1, 6, 0, 1);
        b.run("BOTTOM", RES_BOTTOM, 2);
        b.outcome("BOTTOM", 0, -1, -1, -1);
        b.log("BOTTOM", 2);
        b.run("IND of a VALUE", RES_VALUE, 3);
        b.log("IND of a VALUE", 3);
        b.contents("IND of a VALUE", 3, 1, -1, -1);
        b.states("all", Bench.VALUE, Bench.VALUE, Bench.BOTTOM, Bench.VALUE, Bench.IND);
        b.run("BOTTOM again", RES_BOTTOM, 2);
        b.log("BOTTOM again", 2);
    }

    private static void chains() {
        b.program(2).bang().wild().bang().wild().gives(8).compile();
        b.heap(Bench.thunk(4), Bench.ind(0), Bench.ind(1), Bench.ind(2), Bench.bottom(), Bench.ind(4),
                Bench.ind(5));
        b.run("from the middle", RES_VALUE, 1, 3);
        b.log("from the middle", 1, 0, 3, 2);
        for (int c = 0; c < 4; c++) {
            b.contents("from the middle", c, 4, 0, -1);
        }
        b.run("to BOTTOM", RES_BOTTOM, 0, 6);
        b.log("to BOTTOM", 6, 5, 4);
        b.states("to BOTTOM", Bench.VALUE, Bench.VALUE, Bench.VALUE, Bench.VALUE, Bench.BOTTOM,
                Bench.IND, Bench.IND);
        b.contents("to BOTTOM", 5, -1, 4, -1);
        b.contents("to BOTTOM", 6, -1, 5, -1);
        b.run("to BOTTOM again", RES_BOTTOM, 5, 6);
        b.log("to BOTTOM again", 5, 4);
    }

    private static void chainsOfThirtyTwo() {
        b.program(1).bang().var(0).gives(0).compile();
        chainFrom(Bench.thunk(3));
        b.run("to a THUNK", RES_VALUE, 31);
        b.outcome("to a THUNK", 0, 0, 3, 31);
        b.log("to a THUNK", thirtyOneToZero());
        for (int c = 0; c < 32; c++) {
            b.contents("to a THUNK", c, 3, -1, -1);
        }
        chainFrom(Bench.ind(0));
        b.run("to a loop", RES_LOOP, 31);
        b.log("to a loop", thirtyOneToZero());
        b.run("to a loop again", RES_LOOP, 31);
        b.log("to a loop again", thirtyOneToZero());
        chainFrom(Bench.bottom());
        b.run("to BOTTOM", RES_BOTTOM, 31);
        b.log("to BOTTOM", thirtyOneToZero());
    }

    /** A full heap: this first cell, and each other one an IND to the one before it. */
    private static void chainFrom(int[] first) {
        int[][] cells = new int[32][];
        cells[0] = first;
        for (int c = 1; c < 32; c++) {
            cells[c] = Bench.ind(c - 1);
        }
        b.heap(cells);
    }

    private static int[] thirtyOneToZero() {
        int[] cells = new int[32];
        for (int i = 0; i < 32; i++) {
            cells[i] = 31 - i;
        }
        return cells;
    }

    private static void loops() {
        b.program(1).bang().wild().gives(8).compile();
        b.heap(Bench.ind(0), Bench.ind(0), Bench.ind(1));
        b.run("IND of itself", RES_LOOP, 0);
        b.outcome("IND of itself", 0, -1, -1, -1);
        b.log("IND of itself", 0);
        b.run("a chain to a loop", RES_LOOP, 2);
        b.log("a chain to a loop", 2, 1, 0);
        b.states("a chain to a loop", Bench.IND, Bench.IND, Bench.IND);
        b.contents("a chain to a loop", 2, -1, 1, -1);
        b.run("the marks are gone", RES_LOOP, 1);
        b.log("the marks are gone", 1, 0);
    }

    /** A cell updated in place has the fields of the cell that it evaluated to. */
    private static void copies() {
        b.program(1).con(6).var(0).con(5).var(1).when(0, 2, 1).compile();
        b.heap(Bench.thunk(2), Bench.thunk(5), Bench.ind(1), Bench.thunk(6, 0, 2), Bench.ind(3),
                Bench.ind(4));
        b.run("through INDs", RES_VALUE, 5);
        b.outcome("through INDs", 0, 0, 2, 0);
        b.log("through INDs", 5, 4, 3, 2, 1, 0);
        b.contents("through INDs", 2, 5, 0, -1);
        b.contents("through INDs", 4, 6, 0, 2);
        b.contents("through INDs", 5, 6, 0, 2);
    }
}
