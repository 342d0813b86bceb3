/** Promise 9: MATCH, and RUN with its clauses and alternatives; each in both modes. */
public final class MatchTest {
    private static final int RES_VALUE = LazyPatMatch.RES_VALUE;
    private static final int RES_NOMATCH = LazyPatMatch.RES_NOMATCH;
    private static final int RES_BOTTOM = LazyPatMatch.RES_BOTTOM;
    private static final int RES_LOOP = LazyPatMatch.RES_LOOP;

    private static Bench b;

    public static void main(String[] args) {
        for (int mode = LazyPatMatch.MODE_CLAUSES; mode <= LazyPatMatch.MODE_TREE; mode++) {
            b = new Bench(mode);
            bangs();
            tags();
            firstFailureStops();
            fieldsInPrefixOrder();
            argumentsInOrder();
            forcedCellsStayForTheNextClause();
            guardsInOrder();
            guardsOfEachTag();
            errorsInAlternatives();
            clausesInOrder();
            fullProgram();
            constants();
            theProgramStays();
        }
        Checks.end();
    }

    private static void bangs() {
        b.program(2).bang().bang().var(0).bang().con(4).bang().wild().gives(0)
                .clause().wild().wild().gives(11).compile();
        b.heap(Bench.thunk(2), Bench.thunk(4, 1, 0), Bench.thunk(1), Bench.bottom(),
                Bench.thunk(4, 3, 0));
        b.run("bangs that match", RES_VALUE, 0, 1);
        b.outcome("bangs that match", 0, 0, 2, 0);
        b.log("bangs that match", 0, 1);
        b.run("a bang whose pattern fails", RES_VALUE, 0, 2);
        b.outcome("a bang whose pattern fails", 1, 0, 3, -1);
        b.log("a bang whose pattern fails", 2);
        b.run("a bang on a field", RES_BOTTOM, 0, 4);
        b.outcome("a bang on a field", 0, -1, -1, -1);
        b.log("a bang on a field", 4, 3);
        b.run("a bang on BOTTOM", RES_BOTTOM, 3, 4);
        b.log("a bang on BOTTOM", 3);
    }

    private static void tags() {
        for (int tag = 0; tag <= 7; tag++) {
            Writer w = b.program(1).con(tag);
            for (int i = 0; i < (tag < 4 ? 0 : tag < 6 ? 1 : 2); i++) {
                w.wild();
            }
            w.gives(8).compile();
            int[][] cells = new int[8][];
            for (int other = 0; other <= 7; other++) {
                cells[other] = Bench.thunk(other, other, other);
            }
            b.heap(cells);
            for (int other = 0; other <= 7; other++) {
                boolean same = other == tag;
                String what = "con " + tag + " on " + other;
                b.run(what, same ? RES_VALUE : RES_NOMATCH, other);
                b.outcome(what, same ? 0 : -1, same ? 0 : -1, same ? 0 : -1, -1);
                b.log(what, other);
            }
        }
    }

    private static void firstFailureStops() {
        b.program(2).con(6).con(1).con(2).con(3).gives(8).compile();
        b.heap(Bench.thunk(1), Bench.thunk(2), Bench.thunk(3), Bench.bottom(), Bench.thunk(6, 1, 3),
                Bench.thunk(6, 0, 0), Bench.thunk(6, 0, 1), Bench.thunk(7, 3, 3));
        b.run("field 0 fails", RES_NOMATCH, 4, 3);
        b.outcome("field 0 fails", -1, -1, -1, -1);
        b.log("field 0 fails", 4, 1);
        b.run("field 1 fails", RES_NOMATCH, 5, 3);
        b.log("field 1 fails", 5, 0);
        b.run("the tag fails", RES_NOMATCH, 7, 3);
        b.log("the tag fails", 7);
        b.run("argument 1 ends the run", RES_BOTTOM, 6, 3);
        b.outcome("argument 1 ends the run", 0, -1, -1, -1);
        b.log("argument 1 ends the run", 6, 3);
        b.run("all match", RES_VALUE, 6, 2);
        b.log("all match", 2);
    }

    private static void fieldsInPrefixOrder() {
        b.program(1).con(6).con(7).con(4).var(0).var(1).con(6).bang().var(2).var(3)
                .when(0, 3, 1).when(1, 2, 2).when(2, 0, 3).compile();
        b.heap(Bench.thunk(0), Bench.thunk(1), Bench.thunk(2), Bench.thunk(3), Bench.thunk(4, 3, 0),
                Bench.thunk(7, 4, 1), Bench.thunk(6, 2, 0), Bench.thunk(6, 5, 6), Bench.thunk(4, 0, 0),
                Bench.thunk(7, 8, 2), Bench.thunk(6, 9, 6), Bench.thunk(7, 8, 3), Bench.thunk(6, 0, 3),
                Bench.thunk(6, 11, 12));
        b.run("first alternative", RES_VALUE, 7);
        b.outcome("first alternative", 0, 0, 1, 1);
        b.log("first alternative", 7, 5, 4, 6, 2, 3, 1);
        b.run("second alternative", RES_VALUE, 10);
        b.outcome("second alternative", 0, 1, 2, 2);
        b.log("second alternative", 10, 9, 8, 0);
        b.run("third alternative", RES_VALUE, 13);
        b.outcome("third alternative", 0, 2, 3, 3);
        b.log("third alternative", 13, 11, 12);
    }

    private static void argumentsInOrder() {
        b.program(3).con(0).con(6).wild().con(1).con(2).gives(8).compile();
        b.heap(Bench.thunk(0), Bench.thunk(1), Bench.thunk(2), Bench.thunk(6, 0, 1));
        b.run("three arguments", RES_VALUE, 0, 3, 2);
        b.log("three arguments", 0, 3, 1, 2);
        b.run("the arguments turned", RES_NOMATCH, 2, 3, 0);
        b.run("the last one fails", RES_NOMATCH, 0, 3, 1);
        b.log("the last one fails");
    }

    private static void forcedCellsStayForTheNextClause() {
        b.program(1).con(6).con(0).wild().gives(8).clause().con(6).var(4).con(1).gives(4).compile();
        b.heap(Bench.thunk(1), Bench.ind(0), Bench.thunk(6, 1, 1));
        b.run("second clause", RES_VALUE, 2);
        b.outcome("second clause", 1, 0, 1, 1);
        b.log("second clause", 2, 1, 0);
        b.states("second clause", Bench.VALUE, Bench.VALUE, Bench.VALUE);
    }

    private static void guardsInOrder() {
        b.program(2).var(0).var(1).when(0, 1, 8).when(1, 2, 1).when(0, 3, 0)
                .clause().wild().var(1).when(1, 4, 9).compile();
        b.heap(Bench.thunk(1), Bench.thunk(2), Bench.thunk(3), Bench.thunk(4), Bench.bottom());
        b.run("first guard", RES_VALUE, 0, 4);
        b.outcome("first guard", 0, 0, 0, -1);
        b.log("first guard", 0);
        b.run("second guard", RES_VALUE, 2, 1);
        b.outcome("second guard", 0, 1, 2, 1);
        b.log("second guard", 2, 1);
        b.run("third guard", RES_VALUE, 2, 0);
        b.outcome("third guard", 0, 2, 3, 2);
        b.log("third guard");
        b.run("guard of the next clause", RES_VALUE, 1, 3);
        b.outcome("guard of the next clause", 1, 0, 1, -1);
        b.log("guard of the next clause", 3);
        b.run("no guard holds", RES_NOMATCH, 1, 0);
        b.outcome("no guard holds", -1, -1, -1, -1);
    }

    private static void guardsOfEachTag() {
        Writer w = b.program(1).var(5);
        int[][] cells = new int[8][];
        for (int tag = 0; tag <= 7; tag++) {
            w.when(5, tag, 5);
            cells[tag] = Bench.thunk(tag, tag, tag);
        }
        w.compile();
        b.heap(cells);
        for (int tag = 0; tag <= 7; tag++) {
            b.run("guard " + tag, RES_VALUE, tag);
            b.outcome("guard " + tag, 0, tag, tag, tag);
            b.log("guard " + tag, tag);
        }
    }

    private static void errorsInAlternatives() {
        b.program(2).con(1).wild().gives(8)
                .clause().var(0).var(1).when(0, 1, 8).when(1, 2, 8).gives(1).compile();
        b.heap(Bench.thunk(2), Bench.thunk(3), Bench.bottom(), Bench.ind(3));
        b.run("BOTTOM in a guard", RES_BOTTOM, 0, 2);
        b.outcome("BOTTOM in a guard", 1, 1, -1, -1);
        b.log("BOTTOM in a guard", 0, 2);
        b.run("a loop in a guard", RES_LOOP, 1, 3);
        b.outcome("a loop in a guard", 1, 1, -1, -1);
        b.log("a loop in a guard", 1, 3);
        b.program(1).var(0).gives(0).clause().wild().gives(8).compile();
        b.heap(Bench.bottom(), Bench.ind(1), Bench.thunk(2));
        b.run("BOTTOM in a rhs", RES_BOTTOM, 0);
        b.outcome("BOTTOM in a rhs", 0, 0, -1, -1);
        b.run("a loop in a rhs", RES_LOOP, 1);
        b.outcome("a loop in a rhs", 0, 0, -1, -1);
        b.run("a value, then an error", RES_VALUE, 2);
        b.run("a value, then an error", RES_BOTTOM, 0);
        b.outcome("a value, then an error", 0, 0, -1, -1);
        b.log("a value, then an error", 0);
    }

    /** Eight clauses, clause k for the tag 7 - k, where the last one takes what it is given. */
    private static void clausesInOrder() {
        Writer w = b.program(1).con(7).wild().wild().gives(8);
        w.clause().con(6).var(1).wild().gives(1);
        w.clause().con(5).wild().gives(9);
        w.clause().con(4).var(0).gives(0);
        w.clause().con(3).gives(10);
        w.clause().con(2).gives(11);
        w.clause().con(1).gives(8);
        w.clause().var(7).gives(7).compile();
        int[][] cells = new int[8][];
        for (int tag = 0; tag <= 7; tag++) {
            cells[tag] = Bench.thunk(tag, 0, 1);
        }
        int[] tags = {0, 0, 1, 0, 2, 3, 0, 0};
        int[] results = {-1, 0, -1, 0, -1, -1, -1, 0};
        for (int tag = 0; tag <= 7; tag++) {
            b.heap(cells);
            b.run("clause for " + tag, RES_VALUE, tag);
            b.outcome("clause for " + tag, 7 - tag, 0, tags[7 - tag], results[7 - tag]);
        }
    }

    /** Eight clauses of eight tokens with two alternatives each: all the room that there is. */
    private static void fullProgram() {
        Writer w = b.program(1);
        for (int k = 0; k < 8; k++) {
            if (k > 0) {
                w.clause();
            }
            w.con(6).bang().con(4).var(k).bang().bang().lazy().wild().when(k, k, k).when(k, 7, 8);
        }
        w.compile();
        Checks.due("tokens", b.x.progInfo(LazyPatMatch.PI_TOKENS), LazyPatMatch.MAX_TOKENS);
        Checks.due("alternatives", b.x.progInfo(LazyPatMatch.PI_ALTS), LazyPatMatch.MAX_ALTS);
        b.heap(Bench.thunk(6, 0, 0), Bench.thunk(4, 0, 0), Bench.thunk(6, 1, 0), Bench.thunk(7, 0, 1),
                Bench.thunk(4, 3, 0), Bench.thunk(6, 4, 3), Bench.thunk(3));
        b.run("clause 6 of a full program", RES_VALUE, 2);
        b.outcome("clause 6 of a full program", 6, 0, 6, 0);
        b.log("clause 6 of a full program", 2, 1, 0);
        b.run("a second alternative", RES_VALUE, 5);
        b.outcome("a second alternative", 0, 1, 0, -1);
        b.log("a second alternative", 5, 4, 3);
        b.run("no clause of a full program", RES_NOMATCH, 6);
        b.outcome("no clause of a full program", -1, -1, -1, -1);
        b.log("no clause of a full program", 6);
    }

    private static void constants() {
        for (int rhs = 8; rhs <= 11; rhs++) {
            b.program(1).wild().gives(rhs).compile();
            b.heap(Bench.bottom());
            b.run("constant " + rhs, RES_VALUE, 0);
            b.outcome("constant " + rhs, 0, 0, rhs - 8, -1);
            b.log("constant " + rhs);
        }
    }

    private static void theProgramStays() {
        b.program(2).con(6).var(1).wild().var(0).when(0, 1, 1).clause().wild().wild().gives(8).compile();
        b.heap(Bench.thunk(1), Bench.thunk(6, 0, 1));
        String before = Snapshot.program(b.x);
        b.run("first", RES_VALUE, 1, 0);
        b.outcome("first", 0, 0, 1, 0);
        b.run("second", RES_VALUE, 0, 1);
        b.outcome("second", 1, 0, 0, -1);
        Snapshot.same("run", before, Snapshot.program(b.x));
    }
}
