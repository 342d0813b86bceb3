/** Calls that must be refused: each has the answer of a refusal, and changes nothing. */
final class Refused {
    private Refused() {
    }

    static void cell(LazyPatMatch x, int kind, int tag, int a, int b) {
        String call = "cell(" + kind + ", " + tag + ", " + a + ", " + b + ")";
        String before = Snapshot.of(x);
        Checks.due(call, x.cell(kind, tag, a, b), -1);
        Snapshot.same(call, before, Snapshot.of(x));
    }

    static void clause(LazyPatMatch x, String when) {
        String before = Snapshot.of(x);
        Checks.refused("clause() " + when, x.clause());
        Snapshot.same("clause() " + when, before, Snapshot.of(x));
    }

    static void pat(LazyPatMatch x, int kind, int v) {
        String call = "pat(" + kind + ", " + v + ")";
        String before = Snapshot.of(x);
        Checks.refused(call, x.pat(kind, v));
        Snapshot.same(call, before, Snapshot.of(x));
    }

    static void alt(LazyPatMatch x, int gvar, int gtag, int rhs) {
        String call = "alt(" + gvar + ", " + gtag + ", " + rhs + ")";
        String before = Snapshot.of(x);
        Checks.refused(call, x.alt(gvar, gtag, rhs));
        Snapshot.same(call, before, Snapshot.of(x));
    }

    static void compile(LazyPatMatch x, String when) {
        String before = Snapshot.of(x);
        Checks.refused("compile() " + when, x.compile());
        Snapshot.same("compile() " + when, before, Snapshot.of(x));
    }

    static void run(LazyPatMatch x, String when, int mode, int... a) {
        String call = "run(" + mode + ", " + a[0] + ", " + a[1] + ", " + a[2] + ") " + when;
        String before = Snapshot.of(x);
        Checks.due(call, x.run(mode, a[0], a[1], a[2]), LazyPatMatch.REFUSED);
        Snapshot.same(call, before, Snapshot.of(x));
    }

    /** Each call that writes a program, with arguments that are right wherever it is not refused. */
    static void writing(LazyPatMatch x, String when) {
        clause(x, when);
        for (int kind = LazyPatMatch.P_WILD; kind <= LazyPatMatch.P_LAZY; kind++) {
            pat(x, kind, 7);
        }
        alt(x, LazyPatMatch.NO_GUARD, 0, LazyPatMatch.RHS_CONST);
        compile(x, when);
    }
}
