/** The terms of the body, and the promises 26 to 28. */
final class BodySentences extends Sentences {
    private BodySentences() {
    }

    static void all() {
        cubesRange();
        outlinesBits();
        allBitsAtFirst();
        inAllThree();
        outlineLowestBits();
        outlineNumber();
        cubePromise();
        emptyCount();
        emptyNumber();
    }

    private static void cubesRange() {
        Sentence.of(0, "THE BODY: CUBES (x, y, z), each 0 to 7.");
        Run run = Run.fresh();
        for (String inside : new String[] {"0", "7"}) {
            run.due("cube(" + inside + ", 0, 7)", 1);
            run.due("cube(0, " + inside + ", 7)", 1);
            run.due("cube(7, 0, " + inside + ")", 1);
        }
        dueOutside(run);
        run.due("many(6)", 512);
    }

    /** A CUBE that is none is not of THE BODY, and to ask for it changes nothing. */
    private static void dueOutside(Run run) {
        for (String outside : new String[] {"-1", "8", "MIN", "MAX", "32", "-32", "256"}) {
            run.dueUnchanged("cube(" + outside + ", 0, 0)", 0);
            run.dueUnchanged("cube(0, " + outside + ", 0)", 0);
            run.dueUnchanged("cube(0, 0, " + outside + ")", 0);
        }
        run.dueUnchanged("cube(8, 8, 8)", 0);
        run.dueUnchanged("cube(-1, -1, -1)", 0);
    }

    /** One bit less: just the line of CUBES that is seen there is no more. */
    private static void outlinesBits() {
        Sentence.of(0, "OUTLINES 0, 1, 2 are seen along x, y and z: each a board of 8 by 8 bits, told as rows of 8 bits: of 0 row z, bit y; of 1 row z, bit x; of 2 row y, bit x;");
        for (int o = 0; o < 3; o++) {
            for (int[] at : new int[][] {{0, 0}, {0, 7}, {7, 0}, {7, 7}, {2, 5}, {5, 2}}) {
                Run run = Run.fresh();
                int r = at[0];
                int bit = at[1];
                run.due("outline(" + o + ", " + r + ", " + (255 - (1 << bit)) + ")", 504);
                for (int i = 0; i < 8; i++) {
                    run.due(cube(o, r, bit, i), 0);
                    if (r != bit) {
                        run.due(cube(o, bit, r, i), 1);
                    }
                    run.due(cube(o, (r + 1) % 8, bit, i), 1);
                    run.due(cube(o, r, (bit + 1) % 8, i), 1);
                }
            }
        }
        Run.fresh().edges("outline(?, 0, 0)", 0, 448, 2, 392, NUMBER);
        Run.fresh().edges("outline(0, ?, 0)", 0, 448, 7, 384, NUMBER);
    }

    /** The call for the CUBE that is seen at row r and a bit of an OUTLINE, i being how far along. */
    private static String cube(int o, int r, int bit, int i) {
        int x = o == 0 ? i : bit;
        int y = o == 0 ? bit : o == 1 ? i : r;
        int z = o == 2 ? i : r;
        return "cube(" + x + ", " + y + ", " + z + ")";
    }

    private static void allBitsAtFirst() {
        Sentence.of(0, "all bits are 1 at first.");
        for (int x = 0; x < 8; x++) {
            Run run = Run.fresh();
            for (int at = 0; at < 64; at++) {
                run.due("cube(" + x + ", " + at / 8 + ", " + at % 8 + ")", 1);
            }
        }
        Run run = Run.fresh();
        run.due("many(6)", 512);
        run.dueAll(0, "empty(0)", "empty(1)", "empty(2)");
        // to set them changes nothing
        for (int r = 0; r < 8; r++) {
            run.dueAll(512, "outline(0, " + r + ", 255)", "outline(1, " + r + ", 255)", "outline(2, " + r + ", 255)");
        }
    }

    /** One CUBE, (1, 2, 3), has a 1 in all three; then each bit of it is taken away in turn. */
    private static void inAllThree() {
        Sentence.of(0, "THE BODY has just the CUBES that have a 1 in all three.");
        Run run = Run.fresh();
        for (int r = 0; r < 8; r++) {
            run.then("outline(0, " + r + ", " + (r == 3 ? 4 : 0) + ")", "outline(1, " + r + ", " + (r == 3 ? 2 : 0) + ")",
                "outline(2, " + r + ", " + (r == 2 ? 2 : 0) + ")");
        }
        run.due("many(6)", 1);
        run.due("cube(1, 2, 3)", 1);
        run.dueAll(0, "cube(0, 2, 3)", "cube(1, 1, 3)", "cube(1, 2, 2)", "cube(2, 1, 3)", "cube(3, 2, 1)");
        String[][] taken = {{"outline(0, 3, 0)", "outline(0, 3, 4)"}, {"outline(1, 3, 0)", "outline(1, 3, 2)"},
            {"outline(2, 2, 0)", "outline(2, 2, 2)"}};
        for (String[] pair : taken) {
            run.due(pair[0], 0);
            run.due("cube(1, 2, 3)", 0);
            run.due(pair[1], 1);
            run.due("cube(1, 2, 3)", 1);
        }
    }

    // ---- promises

    private static void outlineLowestBits() {
        Sentence.of(26, "Row r of an OUTLINE becomes the lowest 8 bits of v: how many CUBES THE BODY has.");
        String[][] given = {{"0", "0"}, {"1", "1"}, {"127", "7"}, {"128", "1"}, {"255", "8"}, {"256", "0"}, {"257", "1"},
            {"511", "8"}, {"-1", "8"}, {"-255", "1"}, {"-256", "0"}, {"-257", "8"}, {"MAX", "8"}, {"MIN", "0"}};
        for (int o = 0; o < 3; o++) {
            for (int r = 0; r < 8; r += 7) {
                Run run = Run.fresh();
                for (String[] pair : given) {
                    run.due("outline(" + o + ", " + r + ", " + pair[0] + ")", 448 + 8 * Integer.parseInt(pair[1]));
                }
            }
        }
        Run none = Run.fresh();
        for (int r = 0; r < 8; r++) {
            none.due("outline(1, " + r + ", 256)", 512 - 64 * (r + 1));
        }
        none.due("outline(1, 7, 128)", 8);
    }

    private static void outlineNumber() {
        Sentence.of(26, "NUMBER: there is no such OUTLINE, or r isn't 0 to 7.");
        Run.fresh().edges("outline(?, 7, 0)", 0, 448, 2, 392, NUMBER);
        for (int o = 0; o < 3; o++) {
            Run.fresh().edges("outline(" + o + ", ?, 0)", 0, 448, 7, 384, NUMBER);
            full().dueAll(NUMBER, "outline(" + o + ", -1, 0)", "outline(" + o + ", 8, 0)", "outline(" + o + ", MAX, 255)");
        }
        full().dueAll(NUMBER, "outline(3, 0, 0)", "outline(-1, 7, 0)", "outline(3, 8, 0)", "outline(-1, 8, 0)",
            "outline(1, -8, 0)", "outline(MIN, MIN, MIN)");
    }

    private static void cubePromise() {
        Sentence.of(27, "Whether a CUBE is of THE BODY.");
        Run run = Run.after("outline(0, 7, 1)", "outline(1, 0, 128)", "outline(2, 0, 254)");
        run.due("cube(7, 0, 0)", 1);
        run.due("cube(0, 0, 0)", 0);
        run.due("cube(6, 0, 0)", 0);
        run.due("cube(7, 0, 7)", 1);
        run.due("cube(7, 1, 7)", 0);
        run.due("cube(0, 0, 7)", 0);
        run.due("cube(1, 0, 7)", 1);
        dueOutside(full());
        dueOutside(run);
    }

    private static void emptyCount() {
        Sentence.of(28, "How many bits of an OUTLINE are 1 but have no CUBE of THE BODY along their line.");
        dueEmpty(Run.fresh(), 0, 0, 0);
        int[][] all = {{0, 64, 64}, {64, 0, 64}, {64, 64, 0}};
        for (int o = 0; o < 3; o++) {
            Run run = Run.fresh();
            for (int r = 0; r < 8; r++) {
                run.then("outline(" + o + ", " + r + ", 0)");
            }
            dueEmpty(run, all[o]);
            // one bit, and the body is a line that all bits of it see
            run.then("outline(" + o + ", 7, 128)");
            int[] line = {56, 56, 56};
            line[o] = 0;
            dueEmpty(run, line);
        }
        // one layer of CUBES, the first or the last one: each line that goes through it has one
        for (int bit : new int[] {1, 128}) {
            Run layer = Run.fresh();
            for (int r = 0; r < 8; r++) {
                layer.then("outline(1, " + r + ", " + bit + ")");
            }
            dueEmpty(layer, 0, 0, 56);
            Run other = Run.fresh();
            for (int r = 0; r < 8; r++) {
                other.then("outline(0, " + r + ", " + bit + ")");
            }
            dueEmpty(other, 0, 0, 56);
        }
        for (int left : new int[] {0, 7}) {
            Run layer = Run.fresh();
            for (int z = 0; z < 8; z++) {
                layer.then("outline(0, " + z + ", " + (z == left ? 255 : 0) + ")");
            }
            dueEmpty(layer, 0, 56, 0);
        }
        dueEmpty(Run.after("outline(0, 0, 0)"), 0, 8, 0);
        dueEmpty(Run.after("outline(0, 7, 254)", "outline(0, 6, 254)"), 0, 0, 0);
        dueEmpty(Run.after("outline(1, 7, 0)"), 8, 0, 0);
        dueEmpty(Run.after("outline(2, 7, 0)"), 8, 0, 0);
    }

    private static void dueEmpty(Run run, int... want) {
        for (int o = 0; o < want.length; o++) {
            run.due("empty(" + o + ")", want[o]);
        }
    }

    private static void emptyNumber() {
        Sentence.of(28, "NUMBER: there is no such OUTLINE.");
        Run.fresh().edges("empty(?)", 0, 0, 2, 0, NUMBER);
        full().dueAll(NUMBER, "empty(-1)", "empty(3)", "empty(MIN)", "empty(MAX)");
    }
}
