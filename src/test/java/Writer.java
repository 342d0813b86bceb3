/** Writes a program into an object, and checks that each of its calls is taken. */
final class Writer {
    private final LazyPatMatch x;

    Writer(LazyPatMatch x) {
        this.x = x;
    }

    Writer clause() {
        Checks.accepted("clause()", x.clause());
        return this;
    }

    Writer wild() {
        return token(LazyPatMatch.P_WILD, 0);
    }

    Writer var(int v) {
        return token(LazyPatMatch.P_VAR, v);
    }

    Writer con(int tag) {
        return token(LazyPatMatch.P_CON, tag);
    }

    Writer bang() {
        return token(LazyPatMatch.P_BANG, 0);
    }

    Writer lazy() {
        return token(LazyPatMatch.P_LAZY, 0);
    }

    Writer token(int kind, int v) {
        Checks.accepted("pat(" + kind + ", " + v + ")", x.pat(kind, v));
        return this;
    }

    /** An alternative without a guard. */
    Writer gives(int rhs) {
        return when(LazyPatMatch.NO_GUARD, 0, rhs);
    }

    Writer when(int gvar, int gtag, int rhs) {
        Checks.accepted("alt(" + gvar + ", " + gtag + ", " + rhs + ")", x.alt(gvar, gtag, rhs));
        return this;
    }

    void compile() {
        Checks.accepted("compile()", x.compile());
    }
}
