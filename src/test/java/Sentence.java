import java.io.IOException;
import java.nio.file.Files;
import java.nio.file.Path;
import java.util.ArrayList;
import java.util.Arrays;
import java.util.List;

/**
 * The sentences of the document that are tested, in its own words. In the end every word of its terms
 * and promises must have been tested by one of them, and each by a test of its own.
 */
final class Sentence {
    private static final List<Sentence> TESTED = new ArrayList<>();

    private final int promise;
    private final String words;
    private int asked = 0;

    private Sentence(int promise, String words) {
        this.promise = promise;
        this.words = words;
    }

    /** From here on a sentence of a promise is tested, promise 0 being what stands before the first one. */
    static void of(int promise, String words) {
        TESTED.add(new Sentence(promise, words));
    }

    static void asked() {
        if (!TESTED.isEmpty()) {
            TESTED.get(TESTED.size() - 1).asked++;
        }
    }

    static String now() {
        return TESTED.isEmpty() ? "?" : TESTED.get(TESTED.size() - 1).toString();
    }

    @Override
    public String toString() {
        return (promise == 0 ? "terms" : "promise " + promise) + ", '" + words + "'";
    }

    /** How many sentences are tested, all of them being in the document and all of it being tested. */
    static int checkDocument(Path document) throws IOException {
        String text = Files.readString(document);
        List<Sentence> tested = new ArrayList<>(TESTED);
        of(0, "the whole document");
        for (Sentence sentence : tested) {
            Run.check(sentence.asked > 0, "nothing is asked for " + sentence);
        }
        for (int promise = 0; promise <= 30; promise++) {
            checkSection(promise, promise == 0 ? terms(text) : promiseText(text, promise), tested);
        }
        return tested.size();
    }

    private static void checkSection(int promise, String text, List<Sentence> tested) {
        boolean[] covered = new boolean[text.length()];
        for (Sentence sentence : tested) {
            if (sentence.promise == promise) {
                int from = text.indexOf(sentence.words);
                Run.check(from >= 0, "the document has no " + sentence);
                if (from >= 0) {
                    Run.check(!covered[from], "there are two tests of " + sentence);
                    Arrays.fill(covered, from, from + sentence.words.length(), true);
                }
            }
        }
        StringBuilder rest = new StringBuilder();
        for (int i = 0; i < covered.length; i++) {
            rest.append(covered[i] ? '|' : text.charAt(i));
        }
        for (String piece : rest.toString().split("\\|+")) {
            Run.check(!piece.matches(".*[A-Za-z0-9].*"), "no test in section " + promise + " of: " + piece.trim());
        }
    }

    /** The terms, the constants, and how many calls there are; without what only names or orders calls. */
    private static String terms(String text) {
        String limit = between(text, "## What it is", "## The public face");
        String terms = between(text, "## Terms", "## Promise 1:")
            .replaceAll("(?m)^```.*$", "")
            .replaceAll("(?m)^[0-9]+\\. ", "")
            .replaceAll("(?m)^Ahead of the calls .*$", "")
            .replace("The constants: ", "");
        return plain(limit.substring(limit.indexOf("An object is used")) + " " + terms);
    }

    /** Without the heading and the call's face. */
    private static String promiseText(String text, int promise) {
        String next = promise == 30 ? "## Not promised" : "## Promise " + (promise + 1) + ":";
        String section = between(text, "## Promise " + promise + ":", next);
        return plain(section.substring(section.indexOf("`:") + 2));
    }

    private static String between(String text, String from, String to) {
        int start = text.indexOf(from);
        int end = text.indexOf(to);
        if (start < 0 || end < start) {
            throw new IllegalStateException("the document has no " + from + " before " + to);
        }
        return text.substring(start + from.length(), end);
    }

    private static String plain(String text) {
        return text.replaceAll("\\s+", " ").trim();
    }
}
