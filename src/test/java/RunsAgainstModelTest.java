import java.util.ArrayList;
import java.util.List;

/** Runs of drawn calls, each on a new object: every answer must be the Model's. */
public final class RunsAgainstModelTest {
    private static final int CALLS = 512;
    private static final int MOST_TOLD = 20;
    private static final int[] FAR = {Integer.MIN_VALUE, Integer.MAX_VALUE, -1, 0, 21, 1 << 16, -256, 255};

    private static int wrong = 0;

    private long state;
    private final TwoEyes eyes = new TwoEyes();
    private final Model model = new Model();
    private final List<String> calls = new ArrayList<>();
    private int width = 1;
    private int height = 1;

    private RunsAgainstModelTest(long seed) {
        state = seed * 0x9E3779B97F4A7C15L + 1;
    }

    public static void main(String[] args) {
        for (int seed = 0; seed < 120; seed++) {
            new RunsAgainstModelTest(seed).mixedRun();
        }
        for (int seed = 1000; seed < 1060; seed++) {
            new RunsAgainstModelTest(seed).wholeBoardRun();
        }
        System.out.println(wrong == 0 ? "all answers are the model's" : wrong + " answers are not the model's");
        if (wrong != 0) {
            System.exit(1);
        }
    }

    /** All calls mixed, wrong ones among them. */
    private void mixedRun() {
        while (calls.size() < CALLS) {
            if (below(3) == 0) {
                change();
            } else {
                ask();
            }
        }
    }

    /** A scene is made; then all its SQUARES are asked the same few questions. */
    private void wholeBoardRun() {
        call("size", 1 + below(9), 1 + below(5));
        for (int i = 0; i < 5; i++) {
            call("rule", i, below(new int[] {9, 6, 5, 10, 60}[i]));
        }
        for (int i = 0; i < 12; i++) {
            change();
        }
        for (int y = 0; y < height; y++) {
            for (int x = 0; x < width; x++) {
                call("told", below(2), x, y);
                call("agreed", x, y);
                call("depth", below(2), x, y);
                call("matched", x, y);
                call("segment", x, y);
                call("plane", x, y, 3 + below(2));
                call("view", below(5), x, y);
                call("truth", x, y);
            }
        }
        for (int what = 0; what < 8; what++) {
            call("many", what);
            call("score", what);
        }
    }

    private void change() {
        switch (below(14)) {
            case 0 -> call("size", 1 + below(12), 1 + below(6));
            case 1 -> call("size", near(20), near(10));
            case 2 -> call("shade", picture(), column(), line(), below(40));
            case 3 -> call("shade", picture(), column(), line(), far());
            case 4 -> call("lose", picture(), column(), line());
            case 5 -> call("row", picture(), line(), below(2) == 1);
            case 6 -> call("copy", picture(), below(width), line(), below(width + 1), picture(), below(width), line());
            case 7 -> call("copy", picture(), column(), line(), near(width), picture(), column(), line());
            case 8 -> call("rule", near(4), below(30));
            case 9 -> call("rule", below(5), far());
            case 10 -> board();
            case 11 -> call("draw", column(), line(), near(width), near(height), near(8), far());
            case 12 -> call("outline", near(2), near(7), below(2) == 0 ? far() : below(256));
            default -> call(below(2) == 0 ? "keep" : "back");
        }
    }

    private void board() {
        int x = below(width);
        int y = below(height);
        call("draw", x, y, 1 + below(width - x), 1 + below(height - y), below(9), (int) next());
    }

    private void ask() {
        switch (below(19)) {
            case 0 -> call("told", picture(), column(), line());
            case 1 -> call("many", near(7));
            case 2 -> call("cost", column(), line(), near(8));
            case 3 -> call("path", line());
            case 4 -> call("matched", column(), line());
            case 5 -> call("hidden", picture(), line());
            case 6 -> call("run", column(), line(), near(8), near(7));
            case 7 -> call("sum", column(), line(), near(8));
            case 8 -> call("depth", picture(), column(), line());
            case 9 -> call("agreed", column(), line());
            case 10 -> call("segment", column(), line());
            case 11 -> call("extent", column(), line());
            case 12 -> call("plane", column(), line(), near(4));
            case 13 -> call("view", near(4), column(), line());
            case 14 -> call("holes", near(4));
            case 15 -> call("truth", column(), line());
            case 16 -> call("score", near(3));
            case 17 -> call("cube", near(7), near(7), near(7));
            default -> call("empty", near(2));
        }
    }

    private void call(String name, Object... a) {
        if (calls.size() >= CALLS) {
            return;
        }
        StringBuilder text = new StringBuilder(name).append('(');
        for (int i = 0; i < a.length; i++) {
            text.append(i == 0 ? "" : ", ").append(a[i]);
        }
        Call call = Call.of(text.append(')').toString());
        calls.add(call.toString());
        int want = call.on(model);
        int got;
        try {
            got = call.on(eyes);
        } catch (IllegalStateException thrown) {
            report(thrown.getMessage(), want);
            return;
        }
        if (got != want) {
            report("answered " + got, want);
        }
        width = model.many(0);
        height = model.many(1);
    }

    private void report(String what, int want) {
        wrong++;
        if (wrong <= MOST_TOLD) {
            System.out.println("call " + calls.size() + " " + calls.get(calls.size() - 1) + " " + what
                + ", the model " + want);
        }
        if (wrong == 1) {
            System.out.println("the calls up to there: " + calls);
        }
    }

    // ---- what is drawn for a call: mostly what may be, now and then just beside it or far off

    private int picture() {
        return below(40) == 0 ? near(1) : below(2);
    }

    private int column() {
        return near(width - 1);
    }

    private int line() {
        return near(height - 1);
    }

    private int near(int most) {
        int kind = below(60);
        if (kind == 0) {
            return far();
        }
        if (kind == 1) {
            return -1;
        }
        return kind == 2 ? most + 1 : below(most + 1);
    }

    private int far() {
        return below(4) == 0 ? FAR[below(FAR.length)] : below(4) == 0 ? (int) next() : below(256);
    }

    private int below(int n) {
        return (int) Long.remainderUnsigned(next() >>> 1, n);
    }

    private long next() {
        state ^= state << 13;
        state ^= state >>> 7;
        state ^= state << 17;
        return state;
    }
}
