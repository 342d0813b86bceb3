/**
 * All promises: long runs of calls, each call made on the model, on an object whose runs keep the
 * mode that was drawn, and on one whose runs take the other mode; every answer must be the model's.
 */
public final class ModelTest {
    private static final int OBJECTS = 4000;
    private static final int ROUNDS = 6;

    /** A fixed row of numbers, so that each run of the test makes the same calls. */
    private static long row = 20261115L;

    private static final int[] reached = new int[5];

    private Model model;
    private LazyPatMatch x;
    private LazyPatMatch turned;
    private int[] tags;
    private final StringBuilder story = new StringBuilder();

    public static void main(String[] args) {
        for (int i = 0; i < OBJECTS && Checks.allRight(); i++) {
            new ModelTest().play();
        }
        // Guards the test itself: a draw that no longer reaches a kind of end would show nothing of it.
        for (int kind = LazyPatMatch.RES_VALUE; kind <= LazyPatMatch.RES_LAZYFAIL; kind++) {
            System.out.println(reached[kind] + " runs ended with " + kind);
            Checks.due("enough runs that end with " + kind, reached[kind] > 500 ? 1 : 0, 1);
        }
        Checks.end();
    }

    private static int draw(int bound) {
        row = row * 6364136223846793005L + 1442695040888963407L;
        return (int) ((row >>> 33) % bound);
    }

    private static boolean chance(int percent) {
        return draw(100) < percent;
    }

    /** Mostly a number in 0..most, at times one outside. */
    private static int about(int most) {
        if (!chance(4)) {
            return draw(most + 1);
        }
        int[] wrong = {-1, -2, most + 1, most + 2, Integer.MIN_VALUE, Integer.MAX_VALUE};
        return wrong[draw(wrong.length)];
    }

    /** Few tags in one object, so that patterns meet cells that match them, and deep ones too. */
    private static int[] drawTags() {
        int[] drawn = new int[1 + draw(4)];
        for (int i = 0; i < drawn.length; i++) {
            drawn[i] = i == 0 ? 4 + draw(4) : draw(8);
        }
        return drawn;
    }

    private int aboutTag() {
        return chance(10) ? about(7) : tags[draw(tags.length)];
    }

    private void play() {
        tags = drawTags();
        int arity = draw(5);
        int cells = draw(3) == 0 ? 8 + draw(26) : draw(40);
        story.append("new(" + arity + ", " + cells + ")");
        model = new Model(arity, cells);
        x = new LazyPatMatch(arity, cells);
        turned = new LazyPatMatch(arity, cells);
        sameGetters();
        for (int i = 0; i < ROUNDS && Checks.allRight(); i++) {
            heap();
            stray();
            program();
            for (int n = draw(8); n >= 0; n--) {
                run();
                stray();
            }
            if (chance(60)) {
                clearHeap();
            }
            if (chance(60)) {
                resetProgram();
            }
        }
    }

    private void answer(String call, int due, int got, int gotTurned) {
        story.append("\n  " + call + " -> " + due);
        if (due != got || due != gotTurned) {
            Checks.due(story + "\n" + call, got, due);
            Checks.due(call + " in the other mode", gotTurned, due);
        } else {
            Checks.due(call, got, due);
        }
        sameGetters();
    }

    private void answer(String call, boolean due, boolean got, boolean gotTurned) {
        answer(call, due ? 1 : 0, got ? 1 : 0, gotTurned ? 1 : 0);
    }

    private void heap() {
        for (int n = draw(14); n > 0; n--) {
            cell();
        }
    }

    private void cell() {
        int count = 0;
        while (model.cellInfo(count, 0) >= 0) {
            count++;
        }
        int kind = chance(50) ? LazyPatMatch.CELL_THUNK : about(3);
        int tag = aboutTag();
        int a = about(count);
        int b = about(count);
        answer("cell(" + kind + ", " + tag + ", " + a + ", " + b + ")", model.cell(kind, tag, a, b),
                x.cell(kind, tag, a, b), turned.cell(kind, tag, a, b));
    }

    private void program() {
        for (int n = 1 + draw(9); n > 0; n--) {
            clause();
            for (int t = 0; t < 70 && model.progInfo(LazyPatMatch.PI_DONE) < 3; t++) {
                if (!pat() && chance(60)) {
                    break;
                }
            }
            for (int t = draw(4); t >= 0; t--) {
                alt();
            }
        }
        if (chance(97)) {
            answer("compile()", model.compile(), x.compile(), turned.compile());
        }
    }

    private void clause() {
        answer("clause()", model.clause(), x.clause(), turned.clause());
    }

    private boolean pat() {
        boolean deep = model.progInfo(LazyPatMatch.PI_OPEN) > 3;
        int kind = deep ? draw(2) : chance(30) ? LazyPatMatch.P_CON : about(4);
        int v = kind == LazyPatMatch.P_CON ? aboutTag() : about(7);
        boolean due = model.pat(kind, v);
        answer("pat(" + kind + ", " + v + ")", due, x.pat(kind, v), turned.pat(kind, v));
        return due;
    }

    private void alt() {
        int gvar = chance(15) ? LazyPatMatch.NO_GUARD : chance(85) ? boundVariable() : about(7);
        int gtag = aboutTag();
        int rhs = chance(60) ? boundVariable() : about(11);
        answer("alt(" + gvar + ", " + gtag + ", " + rhs + ")", model.alt(gvar, gtag, rhs),
                x.alt(gvar, gtag, rhs), turned.alt(gvar, gtag, rhs));
    }

    /** A bound variable of the current clause, if the draw meets one. */
    private int boundVariable() {
        int v = draw(8);
        for (int n = 0; n < 8 && (model.progInfo(LazyPatMatch.PI_BOUND) >> v & 1) == 0; n++) {
            v = (v + 1) % 8;
        }
        return v;
    }

    private void run() {
        int count = 0;
        while (model.cellInfo(count, 0) >= 0) {
            count++;
        }
        int mode = about(1);
        int other = mode == 0 || mode == 1 ? 1 - mode : mode;
        int a0 = about(Math.max(0, count - 1));
        int a1 = about(Math.max(0, count - 1));
        int a2 = about(Math.max(0, count - 1));
        int due = model.run(mode, a0, a1, a2);
        answer("run(" + mode + ", " + a0 + ", " + a1 + ", " + a2 + ")", due, x.run(mode, a0, a1, a2),
                turned.run(other, a0, a1, a2));
        if (due >= 0) {
            reached[due]++;
        }
    }

    /** At times a call that does not fit in here. */
    private void stray() {
        switch (draw(12)) {
            case 0:
                clause();
                break;
            case 1:
                pat();
                break;
            case 2:
                alt();
                break;
            case 3:
                answer("compile()", model.compile(), x.compile(), turned.compile());
                break;
            case 4:
                cell();
                break;
            default:
                break;
        }
    }

    private void clearHeap() {
        model.clearHeap();
        x.clearHeap();
        turned.clearHeap();
        answer("clearHeap()", 0, 0, 0);
    }

    private void resetProgram() {
        model.resetProgram();
        x.resetProgram();
        turned.resetProgram();
        answer("resetProgram()", 0, 0, 0);
    }

    private void sameGetters() {
        sameGetters(x);
        sameGetters(turned);
    }

    private void sameGetters(LazyPatMatch object) {
        for (int what = -1; what <= 8; what++) {
            same("progInfo(" + what + ")", object.progInfo(what), model.progInfo(what));
            same("last(" + what + ")", object.last(what), model.last(what));
        }
        for (int c = -1; c <= 33; c++) {
            same("logAt(" + c + ")", object.logAt(c), model.logAt(c));
            for (int what = -1; what <= 4; what++) {
                same("cellInfo(" + c + ", " + what + ")", object.cellInfo(c, what),
                        model.cellInfo(c, what));
            }
        }
    }

    private void same(String call, int got, int due) {
        if (got != due) {
            Checks.due(story + "\n" + call, got, due);
        }
    }
}
