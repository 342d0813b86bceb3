/**
 * One lazy function f, written as clauses of nested patterns and guarded alternatives, and the heap
 * of cells that it is applied to.
 */
public final class LazyPatMatch {
    public static final int MAX_CLAUSES = 8;
    public static final int MAX_TOKENS = 64;
    public static final int MAX_ALTS = 16;

    public static final int CELL_VALUE = 0;
    public static final int CELL_THUNK = 1;
    public static final int CELL_IND = 2;
    public static final int CELL_BOTTOM = 3;

    public static final int P_WILD = 0;
    public static final int P_VAR = 1;
    public static final int P_CON = 2;
    public static final int P_BANG = 3;
    public static final int P_LAZY = 4;

    public static final int NO_GUARD = -1;
    public static final int RHS_CONST = 8;

    public static final int MODE_CLAUSES = 0;
    public static final int MODE_TREE = 1;

    public static final int REFUSED = -1;
    public static final int RES_VALUE = 0;
    public static final int RES_NOMATCH = 1;
    public static final int RES_BOTTOM = 2;
    public static final int RES_LOOP = 3;
    public static final int RES_LAZYFAIL = 4;
    public static final int RES_NONE = 5;

    public static final int LAST_KIND = 0;
    public static final int LAST_CLAUSE = 1;
    public static final int LAST_ALT = 2;
    public static final int LAST_TAG = 3;
    public static final int LAST_CELL = 4;
    public static final int LAST_LOGLEN = 5;

    public static final int CI_STATE = 0;
    public static final int CI_TAG = 1;
    public static final int CI_FIELD0 = 2;
    public static final int CI_FIELD1 = 3;

    public static final int PI_CLAUSES = 0;
    public static final int PI_TOKENS = 1;
    public static final int PI_ALTS = 2;
    public static final int PI_COMPILED = 3;
    public static final int PI_DONE = 4;
    public static final int PI_OPEN = 5;
    public static final int PI_BOUND = 6;
    public static final int PI_CLAUSE_ALTS = 7;

    private static final int LEAST_ARITY = 1;
    private static final int MOST_ARITY = 3;
    private static final int LEAST_CELLS = 8;
    private static final int MOST_CELLS = 32;
    private static final int FIRST_UNARY_TAG = 4;
    private static final int FIRST_BINARY_TAG = 6;
    private static final int GREATEST_TAG = 7;
    private static final int VARIABLES = 8;
    private static final int GREATEST_RHS = 11;
    /** MAX_CLAUSES times VARIABLES. */
    private static final int VARIABLE_PLACES = 64;
    private static final int NOTHING = -1;

    private final int arity;
    private final int cells;

    /** The heap: tag and fields are NOTHING where a cell has none; field 0 of an IND is its target. */
    private final int[] cellState = new int[MOST_CELLS];
    private final int[] cellTag = new int[MOST_CELLS];
    private final int[] cellField0 = new int[MOST_CELLS];
    private final int[] cellField1 = new int[MOST_CELLS];
    private int cellCount;

    /** The tokens of all clauses in order of input, each with the number of its subpatterns. */
    private final int[] tokenKind = new int[MAX_TOKENS];
    private final int[] tokenX = new int[MAX_TOKENS];
    private final int[] tokenSubs = new int[MAX_TOKENS];
    private int tokenCount;

    /** The form built by compile: the token that follows the whole pattern which starts at a token. */
    private final int[] tokenAfter = new int[MAX_TOKENS];

    private final int[] altGvar = new int[MAX_ALTS];
    private final int[] altGtag = new int[MAX_ALTS];
    private final int[] altRhs = new int[MAX_ALTS];
    private int altCount;

    private final int[] clauseFirstToken = new int[MAX_CLAUSES];
    private final int[] clauseFirstAlt = new int[MAX_CLAUSES];
    private final int[] clauseAlts = new int[MAX_CLAUSES];
    /** The token of variable x of clause k, at k * VARIABLES + x. */
    private final int[] variableToken = new int[VARIABLE_PLACES];
    private int clauseCount;
    private boolean compiled;

    /** Of the current clause, which is the last one; all 0 when there is none. */
    private int done;
    private int open;
    private int bound;

    /** Of a run: the arguments, and the cell that each token met (a SITE, or what a variable denotes). */
    private final int[] argument = new int[MOST_ARITY];
    private final int[] tokenCell = new int[MAX_TOKENS];

    private final int[] log = new int[MOST_CELLS];
    private int logLength;
    private int lastKind = RES_NONE;
    private int lastClause = NOTHING;
    private int lastAlt = NOTHING;
    private int lastTag = NOTHING;
    private int lastCell = NOTHING;

    public LazyPatMatch(int arity, int cells) {
        this.arity = clamp(arity, LEAST_ARITY, MOST_ARITY);
        this.cells = clamp(cells, LEAST_CELLS, MOST_CELLS);
    }

    public int cell(int kind, int tag, int a, int b) {
        if (cellCount == cells || kind < CELL_VALUE || kind > CELL_BOTTOM) {
            return NOTHING;
        }
        boolean constructor = kind == CELL_VALUE || kind == CELL_THUNK;
        if (constructor && !isTag(tag)) {
            return NOTHING;
        }
        int fields = constructor ? fieldsOf(tag) : 0;
        boolean hasFirst = fields >= 1 || kind == CELL_IND;
        boolean hasSecond = fields == 2;
        if (hasFirst && !isCellOrNext(a) || hasSecond && !isCellOrNext(b)) {
            return NOTHING;
        }
        int id = cellCount;
        cellState[id] = kind;
        cellTag[id] = constructor ? tag : NOTHING;
        cellField0[id] = hasFirst ? a : NOTHING;
        cellField1[id] = hasSecond ? b : NOTHING;
        cellCount++;
        return id;
    }

    public void clearHeap() {
        cellCount = 0;
    }

    public boolean clause() {
        if (compiled || clauseCount > 0 && !isComplete() || clauseCount == MAX_CLAUSES) {
            return false;
        }
        clauseFirstToken[clauseCount] = tokenCount;
        clauseFirstAlt[clauseCount] = altCount;
        clauseAlts[clauseCount] = 0;
        clauseCount++;
        forgetBuildingState();
        return true;
    }

    public boolean pat(int kind, int x) {
        if (compiled || clauseCount == 0 || done == arity) {
            return false;
        }
        if (kind < P_WILD || kind > P_LAZY || tokenCount == MAX_TOKENS) {
            return false;
        }
        if (kind == P_VAR && (!isVariable(x) || isBound(x)) || kind == P_CON && !isTag(x)) {
            return false;
        }
        int subs = subpatternsOf(kind, x);
        if (kind == P_VAR) {
            bound |= 1 << x;
            variableToken[(clauseCount - 1) * VARIABLES + x] = tokenCount;
        }
        tokenKind[tokenCount] = kind;
        tokenX[tokenCount] = x;
        tokenSubs[tokenCount] = subs;
        tokenCount++;
        open = (open == 0 ? 1 : open) - 1 + subs;
        if (open == 0) {
            done++;
        }
        return true;
    }

    public boolean alt(int gvar, int gtag, int rhs) {
        if (compiled || clauseCount == 0 || done < arity || altCount == MAX_ALTS) {
            return false;
        }
        if (gvar != NO_GUARD && (!isVariable(gvar) || !isBound(gvar) || !isTag(gtag))) {
            return false;
        }
        if (rhs < 0 || rhs > GREATEST_RHS || rhs < RHS_CONST && !isBound(rhs)) {
            return false;
        }
        altGvar[altCount] = gvar;
        altGtag[altCount] = gtag;
        altRhs[altCount] = rhs;
        altCount++;
        clauseAlts[clauseCount - 1]++;
        return true;
    }

    public boolean compile() {
        if (compiled || clauseCount == 0 || !isComplete()) {
            return false;
        }
        linkTokens();
        compiled = true;
        return true;
    }

    public void resetProgram() {
        clauseCount = 0;
        tokenCount = 0;
        altCount = 0;
        compiled = false;
        forgetBuildingState();
    }

    /** Both modes go one way, over the clauses as compile linked them: their outcomes must not differ. */
    public int run(int mode, int a0, int a1, int a2) {
        if (!compiled || mode != MODE_CLAUSES && mode != MODE_TREE) {
            return REFUSED;
        }
        if (!isCell(a0) || arity >= 2 && !isCell(a1) || arity >= 3 && !isCell(a2)) {
            return REFUSED;
        }
        startRun(a0, a1, a2);
        for (int k = 0; k < clauseCount && lastKind == RES_NONE; k++) {
            lastClause = k;
            lastAlt = NOTHING;
            if (matchArguments(k)) {
                tryAlternatives(k);
            }
        }
        if (lastKind == RES_NONE) {
            lastKind = RES_NOMATCH;
            lastClause = NOTHING;
            lastAlt = NOTHING;
        }
        return lastKind;
    }

    public int last(int what) {
        switch (what) {
            case LAST_KIND:
                return lastKind;
            case LAST_CLAUSE:
                return lastClause;
            case LAST_ALT:
                return lastAlt;
            case LAST_TAG:
                return lastTag;
            case LAST_CELL:
                return lastCell;
            case LAST_LOGLEN:
                return logLength;
            default:
                return NOTHING;
        }
    }

    public int logAt(int i) {
        return i >= 0 && i < logLength ? log[i] : NOTHING;
    }

    public int cellInfo(int c, int what) {
        if (!isCell(c)) {
            return NOTHING;
        }
        switch (what) {
            case CI_STATE:
                return cellState[c];
            case CI_TAG:
                return cellTag[c];
            case CI_FIELD0:
                return cellField0[c];
            case CI_FIELD1:
                return cellField1[c];
            default:
                return NOTHING;
        }
    }

    public int progInfo(int what) {
        switch (what) {
            case PI_CLAUSES:
                return clauseCount;
            case PI_TOKENS:
                return tokenCount;
            case PI_ALTS:
                return altCount;
            case PI_COMPILED:
                return compiled ? 1 : 0;
            case PI_DONE:
                return done;
            case PI_OPEN:
                return open;
            case PI_BOUND:
                return bound;
            case PI_CLAUSE_ALTS:
                return clauseCount == 0 ? 0 : clauseAlts[clauseCount - 1];
            default:
                return NOTHING;
        }
    }

    private static int clamp(int value, int least, int most) {
        if (value < least) {
            return least;
        }
        return value > most ? most : value;
    }

    private static boolean isTag(int tag) {
        return tag >= 0 && tag <= GREATEST_TAG;
    }

    private static boolean isVariable(int x) {
        return x >= 0 && x < VARIABLES;
    }

    private static int fieldsOf(int tag) {
        if (tag < FIRST_UNARY_TAG) {
            return 0;
        }
        return tag < FIRST_BINARY_TAG ? 1 : 2;
    }

    private static int subpatternsOf(int kind, int x) {
        if (kind == P_CON) {
            return fieldsOf(x);
        }
        return kind == P_BANG || kind == P_LAZY ? 1 : 0;
    }

    private boolean isCell(int c) {
        return c >= 0 && c < cellCount;
    }

    private boolean isCellOrNext(int c) {
        return c >= 0 && c <= cellCount;
    }

    private boolean isBound(int x) {
        return (bound >> x & 1) != 0;
    }

    private boolean isComplete() {
        return done == arity && open == 0 && clauseAlts[clauseCount - 1] > 0;
    }

    private void forgetBuildingState() {
        done = 0;
        open = 0;
        bound = 0;
    }

    /** Goes backwards, so that the subpatterns of a token, which follow it, are linked before it. */
    private void linkTokens() {
        for (int i = tokenCount - 1; i >= 0; i--) {
            int after = i + 1;
            for (int s = 0; s < tokenSubs[i]; s++) {
                after = tokenAfter[after];
            }
            tokenAfter[i] = after;
        }
    }

    /** RES_NONE stands for a run that has not ended yet. */
    private void startRun(int a0, int a1, int a2) {
        argument[0] = a0;
        argument[1] = a1;
        argument[2] = a2;
        logLength = 0;
        lastKind = RES_NONE;
        lastTag = NOTHING;
        lastCell = NOTHING;
    }

    private boolean matchArguments(int k) {
        int p = clauseFirstToken[k];
        for (int i = 0; i < arity; i++) {
            if (!matchPattern(p, argument[i])) {
                return false;
            }
            p = tokenAfter[p];
        }
        return true;
    }

    private void tryAlternatives(int k) {
        for (int i = 0; i < clauseAlts[k] && lastKind == RES_NONE; i++) {
            lastAlt = i;
            int a = clauseFirstAlt[k] + i;
            if (guardHolds(k, a)) {
                choose(k, a);
            }
        }
    }

    /** False also when the run has ended. */
    private boolean guardHolds(int k, int a) {
        if (altGvar[a] == NO_GUARD) {
            return true;
        }
        int d = demand(k, altGvar[a]);
        return d != NOTHING && cellTag[d] == altGtag[a];
    }

    private void choose(int k, int a) {
        if (altRhs[a] >= RHS_CONST) {
            lastKind = RES_VALUE;
            lastTag = altRhs[a] - RHS_CONST;
            return;
        }
        int d = demand(k, altRhs[a]);
        if (d != NOTHING) {
            lastKind = RES_VALUE;
            lastTag = cellTag[d];
            lastCell = d;
        }
    }

    /** DEMAND(x) in clause k: NOTHING when the run has ended. */
    private int demand(int k, int x) {
        int place = variableToken[k * VARIABLES + x];
        // In prefix order the lazy ancestors of a token come before it, the outermost first.
        for (int i = clauseFirstToken[k]; i < place; i++) {
            boolean lazyAncestor = tokenKind[i] == P_LAZY && place < tokenAfter[i];
            if (lazyAncestor && !matchPattern(i + 1, tokenCell[i])) {
                // A match that failed by an error has ended the run already.
                lastKind = lastKind == RES_NONE ? RES_LAZYFAIL : lastKind;
                return NOTHING;
            }
        }
        int d = tokenCell[place];
        return force(d) ? d : NOTHING;
    }

    /**
     * MATCH(p, v): false when it failed and when the run has ended. Prefix order is the order of
     * matching, so one pass over the tokens does it, each handing its subpatterns their cells.
     */
    private boolean matchPattern(int p, int v) {
        tokenCell[p] = v;
        int skipTo = p;
        for (int i = p; i < tokenAfter[p]; i++) {
            if (i < skipTo) {
                continue;
            }
            int kind = tokenKind[i];
            int c = tokenCell[i];
            if (kind == P_LAZY) {
                skipTo = tokenAfter[i];
            }
            if ((kind == P_BANG || kind == P_CON) && !force(c)) {
                return false;
            }
            if (kind == P_BANG) {
                tokenCell[i + 1] = c;
            }
            if (kind == P_CON) {
                if (cellTag[c] != tokenX[i]) {
                    return false;
                }
                handFieldsOn(i, c);
            }
        }
        return true;
    }

    private void handFieldsOn(int i, int c) {
        if (tokenSubs[i] >= 1) {
            tokenCell[i + 1] = cellField0[c];
        }
        if (tokenSubs[i] == 2) {
            tokenCell[tokenAfter[i + 1]] = cellField1[c];
        }
    }

    /** FORCE(c): answers whether the run goes on; c is a VALUE then. */
    private boolean force(int c) {
        int firstEntry = logLength;
        // A mark never outlives the FORCE that set it, so the marks are bits of a local number.
        long inEvaluation = 0;
        int d = c;
        for (int step = 0; step <= MOST_CELLS && cellState[d] != CELL_VALUE; step++) {
            if ((inEvaluation >> d & 1) != 0) {
                lastKind = RES_LOOP;
                return false;
            }
            log[logLength] = d;
            logLength++;
            if (cellState[d] == CELL_BOTTOM) {
                lastKind = RES_BOTTOM;
                return false;
            }
            if (cellState[d] == CELL_THUNK) {
                cellState[d] = CELL_VALUE;
            } else {
                inEvaluation |= 1L << d;
                d = cellField0[d];
            }
        }
        // What this FORCE logged is the chain of cells that evaluate to d.
        for (int i = firstEntry; i < logLength; i++) {
            int e = log[i];
            cellState[e] = CELL_VALUE;
            cellTag[e] = cellTag[d];
            cellField0[e] = cellField0[d];
            cellField1[e] = cellField1[d];
        }
        return true;
    }
}
