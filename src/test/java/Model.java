import java.util.ArrayList;
import java.util.List;

/**
 * The document written a second time, as near to its words as can be: with recursion, exceptions and
 * trees, to hold the program against it.
 */
final class Model {
    private static final class Cell {
        int state;
        int tag = -1;
        int field0 = -1;
        int field1 = -1;
        boolean inEvaluation;
    }

    private static final class Pattern {
        int kind;
        int x;
        int needs;
        Pattern parent;
        final List<Pattern> subs = new ArrayList<>();
        int site;
        int denoted;

        boolean full() {
            return subs.size() == needs;
        }
    }

    private static final class Clause {
        final List<Pattern> tops = new ArrayList<>();
        final Pattern[] variables = new Pattern[8];
        final List<int[]> alts = new ArrayList<>();
        Pattern innermostOpen;
        int open;
    }

    private static final class Ended extends RuntimeException {
        private static final long serialVersionUID = 1;
        final int kind;

        Ended(int kind) {
            super(null, null, false, false);
            this.kind = kind;
        }
    }

    private final int arity;
    private final int cells;
    private final List<Cell> heap = new ArrayList<>();
    private final List<Clause> clauses = new ArrayList<>();
    private int tokens;
    private int alts;
    private boolean compiled;
    private final List<Integer> log = new ArrayList<>();
    private int[] outcome = {LazyPatMatch.RES_NONE, -1, -1, -1, -1};

    Model(int arity, int cells) {
        this.arity = Math.max(1, Math.min(3, arity));
        this.cells = Math.max(8, Math.min(32, cells));
    }

    private static int fields(int tag) {
        return new int[] {0, 0, 0, 0, 1, 1, 2, 2}[tag];
    }

    private static boolean within(int n, int least, int most) {
        return least <= n && n <= most;
    }

    int cell(int kind, int tag, int a, int b) {
        int count = heap.size();
        boolean con = kind == LazyPatMatch.CELL_VALUE || kind == LazyPatMatch.CELL_THUNK;
        if (count == cells
                || !within(kind, 0, 3)
                || con && !within(tag, 0, 7)
                || con && fields(tag) >= 1 && !within(a, 0, count)
                || con && fields(tag) == 2 && !within(b, 0, count)
                || kind == LazyPatMatch.CELL_IND && !within(a, 0, count)) {
            return -1;
        }
        Cell cell = new Cell();
        cell.state = kind;
        if (con) {
            cell.tag = tag;
            cell.field0 = fields(tag) >= 1 ? a : -1;
            cell.field1 = fields(tag) == 2 ? b : -1;
        }
        if (kind == LazyPatMatch.CELL_IND) {
            cell.field0 = a;
        }
        heap.add(cell);
        return count;
    }

    void clearHeap() {
        heap.clear();
    }

    private Clause current() {
        return clauses.isEmpty() ? null : clauses.get(clauses.size() - 1);
    }

    private int done(Clause c) {
        return c.open > 0 ? c.tops.size() - 1 : c.tops.size();
    }

    private boolean complete(Clause c) {
        return done(c) == arity && c.open == 0 && !c.alts.isEmpty();
    }

    boolean clause() {
        if (compiled || current() != null && !complete(current())
                || clauses.size() == LazyPatMatch.MAX_CLAUSES) {
            return false;
        }
        clauses.add(new Clause());
        return true;
    }

    boolean pat(int kind, int x) {
        Clause c = current();
        if (compiled || c == null || done(c) == arity || !within(kind, 0, 4)
                || tokens == LazyPatMatch.MAX_TOKENS
                || kind == LazyPatMatch.P_VAR && (!within(x, 0, 7) || c.variables[x] != null)
                || kind == LazyPatMatch.P_CON && !within(x, 0, 7)) {
            return false;
        }
        Pattern p = new Pattern();
        p.kind = kind;
        p.x = x;
        boolean wraps = kind == LazyPatMatch.P_BANG || kind == LazyPatMatch.P_LAZY;
        p.needs = kind == LazyPatMatch.P_CON ? fields(x) : wraps ? 1 : 0;
        if (c.innermostOpen == null) {
            c.tops.add(p);
        } else {
            p.parent = c.innermostOpen;
            p.parent.subs.add(p);
        }
        c.open = Math.max(c.open, 1) - 1 + p.needs;
        c.innermostOpen = p;
        while (c.innermostOpen != null && c.innermostOpen.full()) {
            c.innermostOpen = c.innermostOpen.parent;
        }
        if (kind == LazyPatMatch.P_VAR) {
            c.variables[x] = p;
        }
        tokens++;
        return true;
    }

    boolean alt(int gvar, int gtag, int rhs) {
        Clause c = current();
        boolean guard = gvar != LazyPatMatch.NO_GUARD;
        if (compiled || c == null || done(c) < arity || alts == LazyPatMatch.MAX_ALTS
                || guard && (!within(gvar, 0, 7) || c.variables[gvar] == null)
                || guard && !within(gtag, 0, 7)
                || !within(rhs, 0, 11)
                || rhs <= 7 && c.variables[rhs] == null) {
            return false;
        }
        c.alts.add(new int[] {gvar, gtag, rhs});
        alts++;
        return true;
    }

    boolean compile() {
        if (compiled || clauses.isEmpty() || !complete(current())) {
            return false;
        }
        compiled = true;
        return true;
    }

    void resetProgram() {
        clauses.clear();
        tokens = 0;
        alts = 0;
        compiled = false;
    }

    int run(int mode, int... a) {
        if (!compiled || mode != LazyPatMatch.MODE_CLAUSES && mode != LazyPatMatch.MODE_TREE) {
            return LazyPatMatch.REFUSED;
        }
        for (int i = 0; i < arity; i++) {
            if (!within(a[i], 0, heap.size() - 1)) {
                return LazyPatMatch.REFUSED;
            }
        }
        log.clear();
        int[] at = {-1, -1};
        try {
            outcome = apply(a, at);
        } catch (Ended e) {
            outcome = new int[] {e.kind, at[0], at[1], -1, -1};
            for (Cell cell : heap) {
                cell.inEvaluation = false;
            }
        }
        return outcome[0];
    }

    /** at: where the run is, its clause and its alternative. */
    private int[] apply(int[] a, int[] at) {
        for (int k = 0; k < clauses.size(); k++) {
            Clause c = clauses.get(k);
            at[0] = k;
            at[1] = -1;
            if (!matchAll(c, a)) {
                continue;
            }
            for (int i = 0; i < c.alts.size(); i++) {
                int[] alternative = c.alts.get(i);
                at[1] = i;
                if (alternative[0] != LazyPatMatch.NO_GUARD
                        && heap.get(demand(c.variables[alternative[0]])).tag != alternative[1]) {
                    continue;
                }
                if (alternative[2] >= LazyPatMatch.RHS_CONST) {
                    return new int[] {LazyPatMatch.RES_VALUE, k, i, alternative[2] - 8, -1};
                }
                int d = demand(c.variables[alternative[2]]);
                return new int[] {LazyPatMatch.RES_VALUE, k, i, heap.get(d).tag, d};
            }
        }
        return new int[] {LazyPatMatch.RES_NOMATCH, -1, -1, -1, -1};
    }

    private boolean matchAll(Clause c, int[] a) {
        for (int i = 0; i < arity; i++) {
            if (!match(c.tops.get(i), a[i])) {
                return false;
            }
        }
        return true;
    }

    private void force(int id) {
        Cell c = heap.get(id);
        if (c.state == LazyPatMatch.CELL_VALUE) {
            return;
        }
        if (c.inEvaluation) {
            throw new Ended(LazyPatMatch.RES_LOOP);
        }
        log.add(id);
        if (c.state == LazyPatMatch.CELL_BOTTOM) {
            throw new Ended(LazyPatMatch.RES_BOTTOM);
        }
        if (c.state == LazyPatMatch.CELL_IND) {
            c.inEvaluation = true;
            int target = c.field0;
            force(target);
            Cell d = heap.get(target);
            c.tag = d.tag;
            c.field0 = d.field0;
            c.field1 = d.field1;
            c.inEvaluation = false;
        }
        c.state = LazyPatMatch.CELL_VALUE;
    }

    private boolean match(Pattern p, int v) {
        switch (p.kind) {
            case LazyPatMatch.P_VAR:
                p.denoted = v;
                return true;
            case LazyPatMatch.P_BANG:
                force(v);
                return match(p.subs.get(0), v);
            case LazyPatMatch.P_LAZY:
                p.site = v;
                return true;
            case LazyPatMatch.P_CON:
                force(v);
                Cell c = heap.get(v);
                return c.tag == p.x
                        && (p.needs < 1 || match(p.subs.get(0), c.field0))
                        && (p.needs < 2 || match(p.subs.get(1), c.field1));
            default:
                return true;
        }
    }

    private int demand(Pattern variable) {
        List<Pattern> lazies = new ArrayList<>();
        for (Pattern p = variable.parent; p != null; p = p.parent) {
            if (p.kind == LazyPatMatch.P_LAZY) {
                lazies.add(0, p);
            }
        }
        for (Pattern lazy : lazies) {
            if (!match(lazy.subs.get(0), lazy.site)) {
                throw new Ended(LazyPatMatch.RES_LAZYFAIL);
            }
        }
        force(variable.denoted);
        return variable.denoted;
    }

    int last(int what) {
        if (what == LazyPatMatch.LAST_LOGLEN) {
            return log.size();
        }
        return within(what, 0, 4) ? outcome[what] : -1;
    }

    int logAt(int i) {
        return within(i, 0, log.size() - 1) ? log.get(i) : -1;
    }

    int cellInfo(int c, int what) {
        if (!within(c, 0, heap.size() - 1) || !within(what, 0, 3)) {
            return -1;
        }
        Cell cell = heap.get(c);
        return new int[] {cell.state, cell.tag, cell.field0, cell.field1}[what];
    }

    int progInfo(int what) {
        Clause c = current();
        int bound = 0;
        for (int x = 0; x < 8; x++) {
            bound += c != null && c.variables[x] != null ? 1 << x : 0;
        }
        int[] answers = {clauses.size(), tokens, alts, compiled ? 1 : 0, c == null ? 0 : done(c),
            c == null ? 0 : c.open, bound, c == null ? 0 : c.alts.size()};
        return within(what, 0, 7) ? answers[what] : -1;
    }
}
