import java.util.ArrayList;
import java.util.HashMap;
import java.util.List;
import java.util.Map;

/**
 * What the promises say together: in some scenes every pair of calls that may change something, one behind the
 * other, refused ones among them; before, between and behind them all is asked that can be, so that whatever an
 * object has worked out for one call must not be told after another one. The answers must be those of a Model that
 * was asked nothing before.
 */
public final class TogetherTest {
    private static final int MOST_CALLS = 512;
    private static final int MOST_TOLD = 20;

    /** A new object; pictures that are lost here and there, kept as they were before; a plain scene of other rules. */
    private static final List<List<String>> SCENES = List.of(
        List.of(),
        List.of("size(4, 3)", "draw(0, 0, 4, 3, 1, 7)", "draw(1, 1, 2, 2, 2, 9)", "keep()", "shade(0, 3, 2, 12)",
            "lose(0, 0, 1)", "lose(1, 2, 0)", "row(1, 2, true)", "rule(4, 40)", "outline(0, 1, 170)"),
        List.of("size(2, 2)", "shade(0, 1, 1, 5)", "keep()", "size(4, 3)", "draw(0, 0, 4, 3, 2, 5)", "rule(0, 2)",
            "rule(1, 1)", "rule(2, 0)", "rule(3, 9)", "row(0, 0, true)"));

    private static final List<String> CHANGES = List.of(
        "size(4, 3)", "size(3, 2)", "size(1, 1)", "size(0, 3)",
        "shade(0, 1, 1, 250)", "shade(1, 0, 0, -1)", "shade(1, 1, 2, 30)", "shade(0, 4, 0, 1)",
        "lose(0, 1, 1)", "lose(1, 0, 0)", "lose(0, 0, 3)",
        "row(0, 0, true)", "row(0, 0, false)", "row(1, 2, false)", "row(1, 0, true)", "row(2, 0, true)",
        "copy(0, 0, 1, 3, 0, 1, 1)", "copy(1, 1, 0, 2, 0, 0, 2)", "copy(0, 0, 0, 1, 1, 0, 0)", "copy(0, 0, 0, -1, 1, 0, 0)",
        "rule(0, 1)", "rule(0, 8)", "rule(1, 0)", "rule(1, 20)", "rule(2, 7)", "rule(3, 0)", "rule(4, 255)", "rule(4, 256)",
        "draw(0, 0, 1, 1, 0, 3)", "draw(1, 0, 3, 2, 1, -7)", "draw(0, 1, 4, 1, 3, 2)", "draw(0, 0, 5, 1, 0, 1)",
        "outline(0, 1, 0)", "outline(1, 2, 60)", "outline(2, 3, 129)", "outline(3, 0, 0)",
        "keep()", "back()");

    private static int asked = 0;
    private static int wrong = 0;

    private final List<String> scene;
    private final List<String> questions = questions();
    /** By changes what each question is to be answered after them, and last what the last change is. */
    private final Map<List<String>, int[]> due = new HashMap<>();

    private TogetherTest(List<String> scene) {
        this.scene = scene;
    }

    public static void main(String[] args) {
        for (List<String> scene : SCENES) {
            new TogetherTest(scene).everyPair();
        }
        System.out.println(wrong == 0 ? asked + " answers are as due" : wrong + " answers are not as due");
        if (wrong != 0) {
            System.exit(1);
        }
    }

    private void everyPair() {
        for (String first : CHANGES) {
            for (String second : CHANGES) {
                pair(first, second);
            }
            due.keySet().removeIf(changes -> changes.size() == 2);
        }
    }

    private void pair(String first, String second) {
        if (scene.size() + 2 + 3 * questions.size() > MOST_CALLS) {
            throw new IllegalStateException("these are too many calls for one object");
        }
        TwoEyes eyes = new TwoEyes();
        for (String call : scene) {
            Call.of(call).on(eyes);
        }
        // each time another question comes first, as that one finds nothing that the others have worked out
        int turn = Math.floorMod(first.hashCode() + second.hashCode(), questions.size());
        compare(eyes, List.of(), turn);
        compare(eyes, List.of(first), turn + 1);
        compare(eyes, List.of(first, second), turn + 2);
    }

    private void compare(TwoEyes eyes, List<String> changes, int turn) {
        int[] want = due.computeIfAbsent(changes, this::ofTheModel);
        int count = questions.size();
        if (!changes.isEmpty()) {
            compare(eyes, changes, changes.get(changes.size() - 1), want[count]);
        }
        for (int i = 0; i < count; i++) {
            int which = (turn + i) % count;
            compare(eyes, changes, questions.get(which), want[which]);
        }
    }

    private void compare(TwoEyes eyes, List<String> changes, String call, int want) {
        String got;
        try {
            got = "" + Call.of(call).on(eyes);
        } catch (IllegalStateException thrown) {
            got = thrown.getMessage();
        }
        asked++;
        if (!got.equals("" + want)) {
            wrong++;
            if (wrong <= MOST_TOLD) {
                System.out.println(call + " answered " + got + ", due is " + want + "; after " + scene + " and " + changes);
            }
        }
    }

    private int[] ofTheModel(List<String> changes) {
        Model model = new Model();
        for (String call : scene) {
            Call.of(call).on(model);
        }
        int[] answers = new int[questions.size() + 1];
        for (String change : changes) {
            answers[questions.size()] = Call.of(change).on(model);
        }
        for (int i = 0; i < questions.size(); i++) {
            answers[i] = Call.of(questions.get(i)).on(model);
        }
        return answers;
    }

    /** They are asked thrice, so that there are not as many as could be. */
    private static List<String> questions() {
        List<String> all = new ArrayList<>();
        for (int what = 0; what < 9; what++) {
            all.add("many(" + what + ")");
        }
        for (int i = 0; i < 12; i++) {
            int x = i % 4;
            int y = i / 4;
            String at = x + ", " + y;
            all.add("told(" + i % 2 + ", " + at + ")");
            all.add("cost(" + at + ", " + i % 3 + ")");
            all.add("matched(" + at + ")");
            all.add("run(" + at + ", " + i % 2 + ", " + i % 8 + ")");
            all.add("sum(" + at + ", " + i % 3 + ")");
            all.add("depth(" + (1 - i % 2) + ", " + at + ")");
            all.add("agreed(" + at + ")");
            all.add("plane(" + at + ", " + i % 5 + ")");
            all.add("view(" + i % 5 + ", " + at + ")");
            all.add("truth(" + at + ")");
        }
        for (int i = 0; i < 4; i++) {
            all.add("segment(" + i + ", " + i % 3 + ")");
            all.add("path(" + i + ")");
            all.add("hidden(" + i % 2 + ", " + i + ")");
            all.add("extent(" + i + ", " + 1 + ")");
            all.add("holes(" + i + ")");
            all.add("score(" + i + ")");
            all.add("empty(" + i + ")");
            all.add("cube(" + i + ", " + 3 + ", " + (i + 1) % 3 + ")");
        }
        return all;
    }
}
