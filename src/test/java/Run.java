import java.util.ArrayList;
import java.util.List;

/** A run of calls on one new object, each written as in the document, with the answer that is due. */
final class Run {
    private static final int MOST_CALLS = 512;
    private static final int MOST_TOLD = 40;

    private static int asked = 0;
    private static int wrong = 0;

    private final TwoEyes eyes = new TwoEyes();
    /** Without those that were refused: these leave the state as it was. */
    private final List<String> accepted = new ArrayList<>();
    private int calls = 0;

    private Run() {
    }

    static Run fresh() {
        return new Run();
    }

    /** The calls that set a scene are none that is refused. */
    static Run after(String... setting) {
        return new Run().then(setting);
    }

    Run then(String... setting) {
        for (String call : setting) {
            int answer = answer(call);
            check(answer >= 0, call + " should set the scene, but answered " + answer);
            accepted.add(call);
        }
        return this;
    }

    /** An answer below 0 must leave all as it was. */
    void due(String call, int want) {
        if (want < 0) {
            dueUnchanged(call, want);
        } else {
            dueAnswer(call, want);
            accepted.add(call);
        }
    }

    void dueUnchanged(String call, int want) {
        dueAnswer(call, want);
        String change = "";
        try {
            change = Portrait.after(accepted).changedBy(call);
        } catch (IllegalStateException thrown) {
            change = thrown.getMessage();
        }
        check(change.isEmpty(), call + " should change nothing, but then " + change);
    }

    void dueAll(int want, String... same) {
        for (String call : same) {
            due(call, want);
        }
    }

    /**
     * The ? of a call at both ends of its range, where it has its due answers, and beside them and far
     * off, where it is refused. The refusals come first, so that the scene is as it was set.
     */
    void edges(String call, int low, int wantLow, int high, int wantHigh, int refusal) {
        for (String outside : new String[] {"" + (low - 1), "" + (high + 1), "MIN", "MAX"}) {
            due(call.replace("?", outside), refusal);
        }
        due(call.replace("?", "" + low), wantLow);
        if (high != low) {
            due(call.replace("?", "" + high), wantHigh);
        }
    }

    /** What a call behind the 512th answers is free; only that it ends is looked at. */
    void later(String call) {
        try {
            Call.of(call).on(eyes);
            check(calls >= MOST_CALLS, call + " is no later call");
        } catch (IllegalStateException thrown) {
            check(false, thrown.getMessage());
        }
    }

    int countCalls() {
        return calls;
    }

    static void same(String what, int got, int want) {
        check(got == want, what + " is " + got + ", due is " + want);
    }

    /** Ends with exit code 1 if an answer was not the one that is due. */
    static void end() {
        System.out.println(wrong == 0 ? asked + " answers are as due" : wrong + " answers are not as due");
        if (wrong != 0) {
            System.exit(1);
        }
    }

    private void dueAnswer(String call, int want) {
        int got = answer(call);
        check(got == want, call + " answered " + got + ", due is " + want + "; after " + accepted);
    }

    private int answer(String call) {
        calls++;
        check(calls <= MOST_CALLS, call + " is a call too many");
        try {
            return Call.of(call).on(eyes);
        } catch (IllegalStateException thrown) {
            check(false, thrown.getMessage() + "; after " + accepted);
            return Integer.MIN_VALUE;
        }
    }

    static void check(boolean holds, String what) {
        asked++;
        Sentence.asked();
        if (!holds) {
            wrong++;
            if (wrong <= MOST_TOLD) {
                System.out.println(Sentence.now() + ": " + what);
            }
        }
    }
}
