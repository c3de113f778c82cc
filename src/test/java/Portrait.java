import java.util.ArrayList;
import java.util.LinkedHashMap;
import java.util.List;
import java.util.Map;

/**
 * All that the answers of an object tell of its state after some calls: what is in the PICTURES and
 * under MISSING rows, THE TRUTH, the rules, THE BODY, what is kept, and what follows from these.
 * An object is good for 512 calls only, so that new ones repeat the calls as often as it takes.
 */
final class Portrait {
    private static final int MOST_CALLS = 512;
    /** Above this many SQUARES not every RUN is asked for. */
    private static final int FEW_SQUARES = 12;
    /** Makes the object work out all that it might hold, so that a change of that is seen, too. */
    private static final List<String> WARMING = List.of(
        "many(4)", "many(5)", "score(3)", "plane(0, 0, 3)", "view(4, 0, 0)", "run(0, 0, 0, 3)", "empty(0)");
    /** A few of the last ones: mostly several calls are refused one after the other. */
    private static final int MOST_DRAWN = 8;
    private static final Map<List<String>, Portrait> DRAWN = new LinkedHashMap<>();

    private final List<String> calls;
    private final int width;
    private final int height;
    private final int deep;
    private final List<String> questions = new ArrayList<>();
    private final List<Integer> answers = new ArrayList<>();

    private Portrait(List<String> calls) {
        this.calls = calls;
        TwoEyes eyes = repeat(List.of());
        width = eyes.many(0);
        height = eyes.many(1);
        deep = eyes.rule(0, 0);
        askAll(List.of(), questions, answers);
    }

    static Portrait after(List<String> calls) {
        if (DRAWN.size() > MOST_DRAWN) {
            DRAWN.clear();
        }
        return DRAWN.computeIfAbsent(List.copyOf(calls), Portrait::new);
    }

    /** What a further call changes, or nothing (an empty text). */
    String changedBy(String call) {
        List<String> warm = new ArrayList<>(WARMING);
        warm.add(call);
        String change = firstChange(List.of(call));
        return change.isEmpty() ? firstChange(warm) : change;
    }

    private String firstChange(List<String> more) {
        List<Integer> now = new ArrayList<>();
        askAll(more, new ArrayList<>(), now);
        for (int i = 0; i < answers.size() && i < now.size(); i++) {
            if (!answers.get(i).equals(now.get(i))) {
                return questions.get(i) + " answers " + now.get(i) + ", no more " + answers.get(i);
            }
        }
        return answers.size() == now.size() ? "" : "another number of answers";
    }

    private TwoEyes repeat(List<String> more) {
        TwoEyes eyes = new TwoEyes();
        for (String call : calls) {
            Call.of(call).on(eyes);
        }
        for (String call : more) {
            Call.of(call).on(eyes);
        }
        return eyes;
    }

    private void askAll(List<String> more, List<String> asked, List<Integer> got) {
        List<String> unveil = new ArrayList<>();
        for (int y = 0; y < height; y++) {
            unveil.add("row(0, " + y + ", false)");
            unveil.add("row(1, " + y + ", false)");
        }
        List<String> backAndUnveil = new ArrayList<>(List.of("back()"));
        backAndUnveil.addAll(unveil);
        ask(more, List.of(), whatFollows(), asked, got);
        ask(more, List.of(), cubes(), asked, got);
        ask(more, List.of(), rules(), asked, got);
        ask(more, unveil, held(), asked, got);
        ask(more, List.of("back()"), held(), asked, got);
        ask(more, backAndUnveil, held(), asked, got);
    }

    /** The changes are made first, of each object that is needed for the questions. */
    private void ask(List<String> more, List<String> changes, List<String> album, List<String> asked,
        List<Integer> got) {
        int room = MOST_CALLS - calls.size() - more.size() - changes.size();
        // the room of the portrait without more calls, so that both ask in the same order
        int step = MOST_CALLS - calls.size() - WARMING.size() - 1 - changes.size();
        if (step < 1 || step > room) {
            throw new IllegalStateException("the run is too long for a portrait");
        }
        for (int from = 0; from < album.size(); from += step) {
            TwoEyes eyes = repeat(more);
            List<String> here = new ArrayList<>(changes);
            here.addAll(album.subList(from, Math.min(album.size(), from + step)));
            for (String question : here) {
                asked.add(question);
                got.add(Call.of(question).on(eyes));
            }
        }
    }

    private List<String> held() {
        List<String> album = new ArrayList<>(List.of("many(0)", "many(1)", "many(7)"));
        for (int y = 0; y < height; y++) {
            for (int x = 0; x < width; x++) {
                String at = x + ", " + y + ")";
                album.add("told(0, " + at);
                album.add("told(1, " + at);
                album.add("truth(" + at);
            }
        }
        return album;
    }

    private static List<String> rules() {
        List<String> album = new ArrayList<>();
        for (int what = 0; what < 5; what++) {
            album.add("rule(" + what + ", 0)");
        }
        return album;
    }

    private static List<String> cubes() {
        List<String> album = new ArrayList<>(List.of("many(6)", "empty(0)", "empty(1)", "empty(2)"));
        for (int place = 0; place < 512; place++) {
            album.add("cube(" + place / 64 + ", " + place / 8 % 8 + ", " + place % 8 + ")");
        }
        return album;
    }

    private List<String> whatFollows() {
        List<String> album = held();
        for (int what = 2; what < 6; what++) {
            album.add("many(" + what + ")");
            album.add("score(" + (what - 2) + ")");
        }
        for (int y = 0; y < height; y++) {
            album.add("path(" + y + ")");
            album.add("hidden(0, " + y + ")");
            album.add("hidden(1, " + y + ")");
            for (int x = 0; x < width; x++) {
                String at = "(" + x + ", " + y;
                album.addAll(List.of("matched" + at + ")", "agreed" + at + ")", "segment" + at + ")",
                    "plane" + at + ", 3)"));
                if (width * height <= FEW_SQUARES) {
                    addMoreOf(x, y, album);
                }
            }
        }
        return album;
    }

    private void addMoreOf(int x, int y, List<String> album) {
        String at = x + ", " + y;
        album.addAll(List.of("depth(0, " + at + ")", "depth(1, " + at + ")", "extent(" + at + ")",
            "plane(" + at + ", 0)", "plane(" + at + ", 1)", "plane(" + at + ", 2)", "plane(" + at + ", 4)"));
        for (int k = 0; k <= 4; k++) {
            album.add("view(" + k + ", " + at + ")");
        }
        for (int d = 0; d <= deep; d++) {
            album.add("cost(" + at + ", " + d + ")");
            album.add("sum(" + at + ", " + d + ")");
            for (int k = 0; k < 8; k++) {
                album.add("run(" + at + ", " + d + ", " + k + ")");
            }
        }
    }
}
