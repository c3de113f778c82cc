/** The terms of pictures, and the promises 1 to 9. */
final class PictureSentences extends Sentences {
    private PictureSentences() {
    }

    static void all() {
        fiveHundredAndTwelveCalls();
        widthAndHeight();
        shadeOrLost();
        missingRow();
        deep();
        places();
        newObject();
        sizeMakesNew();
        sizeNumber();
        shadeLowestByte();
        shadeNoPictureOrRow();
        shadeMissing();
        shadeNoColumn();
        loseOnce();
        loseNoPictureOrRow();
        loseMissing();
        loseNoColumn();
        rowNewOrNot();
        rowNumber();
        copyAsBefore();
        copyNoPictureOrRow();
        copyMissing();
        copySize();
        copyNoColumn();
        toldShade();
        toldNumber();
        toldLost();
        ruleWhatItWas();
        ruleNumber();
        manyEmptyAndFull();
        manyAnotherWhat();
    }

    // ---- terms

    private static void fiveHundredAndTwelveCalls() {
        Sentence.of(0, "An object is used for at most 512 calls after it has been made; what later calls answer is free.");
        Run run = Run.after("size(20, 10)");
        for (int i = 0; i < 509; i++) {
            run.then("shade(0, " + i % 20 + ", " + i / 20 % 10 + ", " + i + ")");
        }
        // 508 by 20 is row 25 of those counted on, column 8; its lowest byte is 252
        run.due("told(0, 8, 5)", 252);
        run.due("told(0, 9, 5)", 309 - 256);
        Run.same("the last call is call", run.countCalls(), 512);
        for (String call : new String[] {"size(0, 0)", "size(20, 10)", "told(0, 8, 5)", "plane(19, 9, 4)", "back()"}) {
            run.later(call);
        }
    }

    private static void widthAndHeight() {
        Sentence.of(0, "PICTURES 0 (left) and 1 (right) have WIDTH (1 to 20) columns and HEIGHT (1 to 10) rows;");
        Run run = full();
        run.edges("size(?, 10)", 1, 10, 20, 200, NUMBER);
        run.due("many(0)", 20);
        run.edges("size(20, ?)", 1, 20, 10, 200, NUMBER);
        run.due("many(1)", 10);
        run.edges("told(?, 19, 9)", 0, 0, 1, 0, NUMBER);
        run.edges("told(0, ?, 9)", 0, 0, 19, 0, NUMBER);
        run.edges("told(1, 19, ?)", 0, 0, 9, 0, NUMBER);
        run.due("size(1, 1)", 1);
        run.edges("told(?, 0, 0)", 0, 0, 1, 0, NUMBER);
        run.edges("told(0, ?, 0)", 0, 0, 0, 0, NUMBER);
        run.edges("told(1, 0, ?)", 0, 0, 0, 0, NUMBER);
    }

    private static void shadeOrLost() {
        Sentence.of(0, "SQUARE (x, y) has a SHADE (0 to 255), or is LOST;");
        Run run = Run.after("size(2, 2)");
        int[][] given = {{0, 0}, {255, 255}, {256, 0}, {-1, 255}};
        for (int[] pair : given) {
            run.due("shade(1, 1, 1, " + pair[0] + ")", 1);
            run.due("told(1, 1, 1)", pair[1]);
        }
        run.due("lose(1, 1, 1)", 1);
        run.due("told(1, 1, 1)", LOST);
        run.dueAll(0, "told(0, 1, 1)", "told(1, 0, 1)", "told(1, 1, 0)");
        run.due("shade(1, 1, 1, 0)", 1);
        run.due("told(1, 1, 1)", 0);
    }

    private static void missingRow() {
        Sentence.of(0, "a ROW of a PICTURE may be MISSING (all its SQUARES are LOST then, whatever they were; these come back with it).");
        for (int picture = 0; picture < 2; picture++) {
            Run run = Run.after("size(4, 3)");
            fill(run, picture, 1, 0, 255, LOST, 7);
            run.due("row(" + picture + ", 1, true)", 1);
            dueInRow(run, "told(" + picture + ", ?, 1)", LOST, LOST, LOST, LOST);
            dueInRow(run, "told(" + (1 - picture) + ", ?, 1)", 0, 0, 0, 0);
            dueInRow(run, "told(" + picture + ", ?, 0)", 0, 0, 0, 0);
            dueInRow(run, "told(" + picture + ", ?, 2)", 0, 0, 0, 0);
            run.due("many(" + (2 + picture) + ")", 4);
            run.due("many(" + (3 - picture) + ")", 0);
            run.due("cost(1, 1, 0)", NONE);
            run.due("row(" + picture + ", 1, false)", 1);
            dueInRow(run, "told(" + picture + ", ?, 1)", 0, 255, LOST, 7);
            run.due("many(" + (2 + picture) + ")", 1);
        }
        Run edges = widest();
        for (int y : new int[] {0, 9}) {
            edges.due("row(0, " + y + ", true)", 1);
            edges.dueAll(LOST, "told(0, 0, " + y + ")", "told(0, 19, " + y + ")");
        }
        edges.due("many(2)", 40);
    }

    private static void deep() {
        Sentence.of(0, "DEEP is D (0 to 8).");
        Run run = widest();
        run.edges("cost(19, 9, ?)", 0, 0, 8, 0, NUMBER);
        run.edges("rule(0, ?)", 0, 8, 8, 0, NUMBER);
        run.due("rule(0, 0)", 8);
        run.edges("cost(19, 9, ?)", 0, 0, 0, 0, NUMBER);
    }

    private static void places() {
        Sentence.of(0, "PLACES of SQUARES go by rows: y times WIDTH and x.");
        Run run = Run.after("size(20, 10)", "shade(0, 19, 0, 50)", "shade(0, 0, 1, 100)", "shade(0, 0, 9, 150)",
            "shade(0, 19, 9, 200)", "shade(0, 7, 4, 250)");
        run.due("segment(0, 0)", 0);
        run.due("segment(19, 0)", 19);
        run.due("segment(0, 1)", 20);
        run.due("segment(7, 4)", 87);
        run.due("segment(0, 9)", 180);
        run.due("segment(19, 9)", 199);
        Run narrow = Run.after("size(1, 10)", "shade(0, 0, 9, 50)");
        narrow.due("segment(0, 9)", 9);
    }

    // ---- promises 1 and 2

    private static void newObject() {
        Sentence.of(1, "PICTURES of one SQUARE of SHADE 0; D is 4; no TRUTH; nothing is kept.");
        Run run = Run.fresh();
        run.dueAll(1, "many(0)", "many(1)");
        run.edges("told(?, 0, 0)", 0, 0, 1, 0, NUMBER);
        run.edges("told(0, ?, 0)", 0, 0, 0, 0, NUMBER);
        run.edges("told(0, 0, ?)", 0, 0, 0, 0, NUMBER);
        run.edges("cost(0, 0, ?)", 0, 0, 4, NONE, NUMBER);
        run.dueAll(0, "many(2)", "many(3)", "many(7)");
        run.due("truth(0, 0)", NONE);
        run.due("back()", NONE);
        run.due("rule(0, 4)", 4);
    }

    private static void sizeMakesNew() {
        Sentence.of(2, "New PICTURES, all of SHADE 0, no TRUTH: how many SQUARES each has.");
        int[][] sizes = {{3, 2}, {1, 1}, {5, 4}, {2, 3}};
        for (int[] size : sizes) {
            Run run = full();
            int width = size[0];
            int height = size[1];
            run.due("size(" + width + ", " + height + ")", width * height);
            run.due("many(0)", width);
            run.due("many(1)", height);
            for (int picture = 0; picture < 2; picture++) {
                for (String call : forEach(width, height, "told(" + picture + ", X, Y)")) {
                    run.due(call, 0);
                }
                for (int y = 0; y < height; y++) {
                    run.due("row(" + picture + ", " + y + ", false)", 0);
                }
            }
            run.due("many(7)", 0);
            run.due("truth(0, 0)", NONE);
            run.due("rule(0, 2)", 2);
            run.due("back()", 1);
            run.due("many(0)", 3);
            run.due("many(7)", 6);
        }
        Run greatest = full();
        greatest.due("size(20, 10)", 200);
        greatest.dueAll(0, "told(0, 19, 9)", "told(1, 19, 9)", "many(2)", "many(3)", "many(7)");
    }

    private static void sizeNumber() {
        Sentence.of(2, "NUMBER: width isn't 1 to 20, or height not 1 to 10.");
        Run run = full();
        run.dueAll(NUMBER, "size(0, 0)", "size(21, 11)", "size(-1, -1)", "size(MAX, MAX)", "size(MIN, MIN)");
        run.dueAll(NUMBER, "size(-3, -2)", "size(65536, 65536)", "size(11, 20)", "size(10, 20)");
        run.edges("size(?, 1)", 1, 1, 20, 20, NUMBER);
        run.edges("size(?, 10)", 1, 10, 20, 200, NUMBER);
        run.edges("size(1, ?)", 1, 1, 10, 10, NUMBER);
        run.edges("size(20, ?)", 1, 20, 10, 200, NUMBER);
    }

    // ---- promise 3

    private static void shadeLowestByte() {
        Sentence.of(3, "SHADE of a SQUARE becomes the lowest byte of v; it is not LOST (but for its row): 1.");
        String[][] given = {{"0", "0"}, {"1", "1"}, {"127", "127"}, {"128", "128"}, {"255", "255"}, {"256", "0"},
            {"257", "1"}, {"511", "255"}, {"512", "0"}, {"-1", "255"}, {"-255", "1"}, {"-256", "0"}, {"-257", "255"},
            {"MAX", "255"}, {"MIN", "0"}, {"65535", "255"}, {"65536", "0"}};
        for (int picture = 0; picture < 2; picture++) {
            Run run = Run.after("size(2, 2)");
            String at = "(" + picture + ", 1, 1";
            for (String[] pair : given) {
                run.then("shade" + at + ", 90)", "lose" + at + ")");
                run.due("told" + at + ")", LOST);
                run.due("shade" + at + ", " + pair[0] + ")", 1);
                run.due("told" + at + ")", Integer.parseInt(pair[1]));
            }
            run.due("lose" + at + ")", 1);
            run.due("row(" + picture + ", 1, true)", 1);
            run.due("shade" + at + ", 3)", MISSING);
            run.due("told" + at + ")", LOST);
            run.due("row(" + picture + ", 1, false)", 1);
            run.due("told" + at + ")", LOST);
        }
    }

    private static void shadeNoPictureOrRow() {
        Sentence.of(3, "NUMBER: there is no such PICTURE, or no such row;");
        full().edges("shade(?, 0, 0, 5)", 0, 1, 1, 1, NUMBER);
        full().edges("shade(1, 0, ?, 5)", 0, 1, 1, 1, NUMBER);
        full().dueAll(NUMBER, "shade(2, 0, 1, 5)", "shade(-1, 0, 1, 5)", "shade(0, 3, 2, 5)", "shade(2, 3, 2, 5)");
        Run.fresh().edges("shade(?, 0, 0, 5)", 0, 1, 1, 1, NUMBER);
        Run.fresh().edges("shade(0, 0, ?, 5)", 0, 1, 0, 1, NUMBER);
        widest().edges("shade(0, 19, ?, 5)", 0, 1, 9, 1, NUMBER);
    }

    private static void shadeMissing() {
        Sentence.of(3, "MISSING;");
        Run run = full();
        run.dueAll(MISSING, "shade(0, 0, 1, 5)", "shade(0, 2, 1, 5)");
        run.dueAll(MISSING, "shade(0, -1, 1, 5)", "shade(0, 3, 1, 5)", "shade(0, MIN, 1, 5)", "shade(0, MAX, 1, 5)");
        run.dueAll(1, "shade(0, 0, 0, 5)", "shade(1, 0, 1, 5)");
        run.due("row(0, 1, false)", 1);
        run.due("shade(0, 0, 1, 5)", 1);
        run.due("told(0, 0, 1)", 5);
    }

    private static void shadeNoColumn() {
        Sentence.of(3, "NUMBER: there is no such column.");
        full().edges("shade(0, ?, 0, 5)", 0, 1, 2, 1, NUMBER);
        full().edges("shade(1, ?, 1, 5)", 0, 1, 2, 1, NUMBER);
        Run.fresh().edges("shade(1, ?, 0, 5)", 0, 1, 0, 1, NUMBER);
        widest().edges("shade(0, ?, 9, 5)", 0, 1, 19, 1, NUMBER);
    }

    // ---- promise 4

    private static void loseOnce() {
        Sentence.of(4, "A SQUARE is LOST: 1, 0 if it was.");
        for (int picture = 0; picture < 2; picture++) {
            Run run = Run.after("size(3, 2)", "shade(" + picture + ", 2, 1, 255)");
            String lose = "lose(" + picture + ", 2, 1)";
            String told = "told(" + picture + ", 2, 1)";
            run.due(lose, 1);
            run.due(told, LOST);
            run.due(lose, 0);
            run.due(lose, 0);
            run.due(told, LOST);
            run.due("many(" + (2 + picture) + ")", 1);
            run.due("many(" + (3 - picture) + ")", 0);
            run.due("shade(" + picture + ", 2, 1, 0)", 1);
            run.due(lose, 1);
            run.due("row(" + picture + ", 1, true)", 1);
            run.due("row(" + picture + ", 1, false)", 1);
            run.due(lose, 0);
            for (String call : forEach(3, 2, "lose(" + picture + ", X, Y)")) {
                run.due(call, call.equals(lose) ? 0 : 1);
            }
            run.due("many(" + (2 + picture) + ")", 6);
        }
    }

    private static void loseNoPictureOrRow() {
        Sentence.of(4, "NUMBER,");
        full().edges("lose(?, 0, 0)", 0, 1, 1, 1, NUMBER);
        full().edges("lose(1, 0, ?)", 0, 1, 1, 1, NUMBER);
        full().dueAll(NUMBER, "lose(2, 0, 1)", "lose(-1, 0, 1)", "lose(0, 3, 2)");
        Run.fresh().edges("lose(?, 0, 0)", 0, 1, 1, 1, NUMBER);
        Run.fresh().edges("lose(0, 0, ?)", 0, 1, 0, 1, NUMBER);
        widest().edges("lose(0, 19, ?)", 0, 1, 9, 1, NUMBER);
    }

    private static void loseMissing() {
        Sentence.of(4, "MISSING,");
        Run run = full();
        run.dueAll(MISSING, "lose(0, 0, 1)", "lose(0, 1, 1)", "lose(0, 2, 1)");
        run.dueAll(MISSING, "lose(0, -1, 1)", "lose(0, 3, 1)", "lose(0, MIN, 1)", "lose(0, MAX, 1)");
        run.dueAll(1, "lose(0, 0, 0)", "lose(1, 0, 1)");
        run.due("row(0, 1, false)", 1);
        run.due("lose(0, 0, 1)", 1);
        run.due("lose(0, 1, 1)", 0);
    }

    private static void loseNoColumn() {
        Sentence.of(4, "NUMBER likewise.");
        full().edges("lose(1, ?, 0)", 0, 1, 2, 1, NUMBER);
        Run.fresh().edges("lose(1, ?, 0)", 0, 1, 0, 1, NUMBER);
        widest().edges("lose(0, ?, 9)", 0, 1, 19, 1, NUMBER);
    }

    // ---- promise 5

    private static void rowNewOrNot() {
        Sentence.of(5, "A ROW is MISSING, or not: 1 if that is new, else 0.");
        for (int picture = 0; picture < 2; picture++) {
            for (int y : new int[] {0, 2}) {
                Run run = Run.after("size(2, 3)", "shade(" + picture + ", 1, " + y + ", 8)");
                String row = "row(" + picture + ", " + y + ", ";
                run.due(row + "false)", 0);
                run.due(row + "true)", 1);
                run.due(row + "true)", 0);
                run.due("many(" + (2 + picture) + ")", 2);
                run.due(row + "false)", 1);
                run.due(row + "false)", 0);
                run.due("many(2)", 0);
                run.due("told(" + picture + ", 1, " + y + ")", 8);
            }
        }
        Run all = Run.after("size(1, 10)");
        for (int y = 0; y < 10; y++) {
            all.due("row(1, " + y + ", true)", 1);
            all.due("many(3)", y + 1);
        }
    }

    private static void rowNumber() {
        Sentence.of(5, "NUMBER: there is no such PICTURE, or no such row.");
        full().edges("row(?, 0, true)", 0, 1, 1, 1, NUMBER);
        full().edges("row(?, 0, false)", 0, 0, 1, 0, NUMBER);
        full().edges("row(0, ?, true)", 0, 1, 1, 0, NUMBER);
        full().edges("row(0, ?, false)", 0, 0, 1, 1, NUMBER);
        full().edges("row(1, ?, true)", 0, 1, 1, 1, NUMBER);
        Run.fresh().edges("row(1, ?, true)", 0, 1, 0, 1, NUMBER);
        widest().edges("row(1, ?, true)", 0, 1, 9, 1, NUMBER);
        // rows of PICTURES that were greater before are none
        Run smaller = Run.after("size(2, 10)", "row(0, 9, true)", "size(2, 9)");
        smaller.dueAll(NUMBER, "row(0, 9, true)", "row(0, 9, false)");
    }

    // ---- promise 6

    private static void copyAsBefore() {
        Sentence.of(6, "SHADES of n SQUARES of row y of a PICTURE, from column x on, with what is LOST, come to row v of picture other, from column u on, all as they were before: n.");
        int[] whole = {1, LOST, 3, 255, 5};
        int[] none = {6, 7, 8, LOST, 9};
        dueCopy(whole, none, "copy(0, 0, 0, 0, 1, 0, 1)", 0, whole, none);
        dueCopy(whole, none, "copy(0, 0, 0, 1, 1, 4, 1)", 1, whole, new int[] {6, 7, 8, LOST, 1});
        dueCopy(whole, none, "copy(0, 1, 0, 3, 1, 2, 1)", 3, whole, new int[] {6, 7, LOST, 3, 255});
        dueCopy(whole, none, "copy(0, 0, 0, 5, 1, 0, 1)", 5, whole, whole);
        dueCopy(whole, none, "copy(1, 3, 1, 2, 0, 0, 0)", 2, new int[] {LOST, 9, 3, 255, 5}, none);
        dueCopy(whole, none, "copy(0, 0, 0, 4, 0, 1, 0)", 4, new int[] {1, 1, LOST, 3, 255}, none);
        dueCopy(whole, none, "copy(0, 1, 0, 4, 0, 0, 0)", 4, new int[] {LOST, 3, 255, 5, 5}, none);
        dueCopy(whole, none, "copy(0, 0, 0, 5, 0, 0, 0)", 5, whole, none);
        dueCopy(whole, none, "copy(0, 0, 0, 2, 0, 3, 0)", 2, new int[] {1, LOST, 3, 1, LOST}, none);
        Run wide = widest().then("shade(0, 19, 9, 4)", "lose(0, 0, 9)");
        wide.due("copy(0, 0, 9, 20, 1, 0, 0)", 20);
        wide.due("told(1, 19, 0)", 4);
        wide.due("told(1, 0, 0)", LOST);
        wide.due("told(1, 0, 1)", 0);
        wide.due("many(3)", 1);
        Run one = Run.after("shade(0, 0, 0, 7)");
        one.due("copy(0, 0, 0, 1, 1, 0, 0)", 1);
        one.due("told(1, 0, 0)", 7);
        // what follows from the SHADES follows from the new ones
        Run cost = rowOf(new int[] {9, 5}, new int[2]);
        cost.due("cost(0, 0, 0)", 1);
        cost.due("copy(0, 0, 0, 2, 1, 0, 0)", 2);
        cost.due("cost(0, 0, 0)", 0);
    }

    /** The left PICTURE's row 0 and the right one's row 1, before and after; the other rows stay. */
    private static void dueCopy(int[] left, int[] right, String copy, int n, int[] leftAfter, int[] rightAfter) {
        int[] other = {11, 12, LOST, 13, 14};
        Run run = pictures(new int[][] {left, other}, new int[][] {other, right});
        run.due(copy, n);
        dueInRow(run, "told(0, ?, 0)", leftAfter);
        dueInRow(run, "told(1, ?, 1)", rightAfter);
        dueInRow(run, "told(0, ?, 1)", other);
        dueInRow(run, "told(1, ?, 0)", other);
    }

    private static void copyNoPictureOrRow() {
        Sentence.of(6, "NUMBER: there is no such PICTURE or row (either);");
        full().edges("copy(?, 0, 0, 1, 1, 0, 1)", 0, 1, 1, 1, NUMBER);
        full().edges("copy(1, 0, 1, 1, ?, 0, 0)", 0, 1, 1, 1, NUMBER);
        full().edges("copy(1, 0, ?, 1, 0, 0, 0)", 0, 1, 1, 1, NUMBER);
        full().edges("copy(0, 0, 0, 1, 1, 0, ?)", 0, 1, 1, 1, NUMBER);
        widest().edges("copy(0, 0, ?, 20, 1, 0, 9)", 0, 20, 9, 20, NUMBER);
        widest().edges("copy(0, 0, 9, 20, 1, 0, ?)", 0, 20, 9, 20, NUMBER);
        // also where the other row is MISSING, n is below 0, or there is nothing to copy
        full().dueAll(NUMBER, "copy(0, 0, 1, 1, 2, 0, 0)", "copy(0, 0, 1, 1, 1, 0, 2)", "copy(-1, 0, 0, 1, 0, 0, 1)",
            "copy(1, 0, 2, 1, 0, 0, 1)", "copy(2, 0, 0, -1, 1, 0, 0)", "copy(0, 0, 0, -1, 1, 0, -1)",
            "copy(2, 0, 0, 0, 1, 0, 0)", "copy(0, 0, 0, 0, -1, 0, 0)", "copy(0, 0, -1, 0, 1, 0, 0)",
            "copy(0, 0, 0, 0, 1, 0, 2)");
    }

    private static void copyMissing() {
        Sentence.of(6, "MISSING: one is;");
        Run run = full();
        run.dueAll(MISSING, "copy(0, 0, 1, 1, 1, 0, 0)", "copy(1, 0, 0, 1, 0, 0, 1)", "copy(0, 0, 1, 1, 0, 0, 1)");
        run.dueAll(MISSING, "copy(0, 0, 1, 0, 1, 0, 0)", "copy(1, 0, 0, 0, 0, 0, 1)");
        run.dueAll(MISSING, "copy(0, 0, 1, -1, 1, 0, 0)", "copy(1, 0, 0, MIN, 0, 0, 1)");
        run.dueAll(MISSING, "copy(0, 3, 1, 1, 1, 0, 0)", "copy(1, 0, 0, 4, 0, -1, 1)");
        run.due("copy(0, 0, 0, 1, 1, 0, 1)", 1);
        run.due("row(0, 1, false)", 1);
        run.due("copy(0, 0, 1, 1, 1, 0, 0)", 1);
        run.due("row(1, 0, true)", 1);
        run.due("copy(0, 0, 1, 1, 0, 0, 0)", 1);
        run.due("copy(0, 0, 1, 1, 1, 0, 0)", MISSING);
    }

    private static void copySize() {
        Sentence.of(6, "SIZE: n is below 0;");
        Run run = full();
        run.dueAll(SIZE, "copy(0, 0, 0, -1, 1, 0, 1)", "copy(0, 0, 0, -2, 1, 0, 1)", "copy(0, 0, 0, MIN, 1, 0, 1)");
        run.dueAll(SIZE, "copy(0, 2, 0, -1, 1, 2, 1)", "copy(0, 3, 0, -3, 1, 3, 1)");
        run.dueAll(SIZE, "copy(0, -1, 0, -1, 1, 0, 1)", "copy(0, 4, 0, -1, 1, 9, 1)", "copy(0, MAX, 0, MIN, 1, MIN, 1)");
        run.due("copy(0, 0, 0, 0, 1, 0, 1)", 0);
    }

    private static void copyNoColumn() {
        Sentence.of(6, "NUMBER: a column would be none.");
        for (int n = 1; n <= 3; n++) {
            full().edges("copy(0, ?, 0, " + n + ", 1, 0, 1)", 0, n, 3 - n, n, NUMBER);
            full().edges("copy(0, 0, 0, " + n + ", 1, ?, 1)", 0, n, 3 - n, n, NUMBER);
        }
        for (int x = 0; x <= 3; x++) {
            full().dueAll(NUMBER, "copy(0, " + x + ", 0, " + (4 - x) + ", 1, 0, 1)", "copy(0, 0, 0, " + (4 - x)
                + ", 1, " + x + ", 1)", "copy(0, " + x + ", 0, MAX, 1, 0, 1)", "copy(0, 0, 0, MAX, 1, " + x + ", 1)");
            full().due("copy(0, " + x + ", 0, " + (3 - x) + ", 1, " + x + ", 1)", 3 - x);
        }
        // sums of these wrap around
        full().dueAll(NUMBER, "copy(0, MAX, 0, MAX, 1, 0, 1)", "copy(0, 0, 0, MAX, 1, MAX, 1)",
            "copy(0, MIN, 0, MAX, 1, 0, 1)", "copy(0, 0, 0, MAX, 1, MIN, 1)", "copy(0, MAX, 0, 1, 1, MAX, 1)",
            "copy(0, 1, 0, MAX, 1, 1, 1)", "copy(0, 2, 0, MAX, 1, 3, 1)", "copy(0, MAX, 0, MAX, 1, MAX, 1)",
            "copy(0, -1, 0, 4, 1, 0, 1)", "copy(0, -1, 0, 1, 1, -1, 1)");
        // of no columns at all it is read as a stretch that must lie in the PICTURE
        full().edges("copy(0, ?, 0, 0, 1, 0, 1)", 0, 0, 3, 0, NUMBER);
        full().edges("copy(0, 0, 0, 0, 1, ?, 1)", 0, 0, 3, 0, NUMBER);
        widest().dueAll(NUMBER, "copy(0, 0, 0, 21, 1, 0, 1)", "copy(0, 1, 0, 20, 1, 0, 1)", "copy(0, 0, 0, 20, 1, 1, 1)");
        widest().due("copy(0, 19, 0, 1, 1, 19, 1)", 1);
        Run.fresh().due("copy(0, 0, 0, 2, 1, 0, 0)", NUMBER);
    }

    // ---- promise 7

    private static void toldShade() {
        Sentence.of(7, "SHADE of a SQUARE.");
        Run run = pictures(new int[][] {{1, 255}, {0, 4}}, new int[][] {{5, 6}, {7, 128}});
        dueInRow(run, "told(0, ?, 0)", 1, 255);
        dueInRow(run, "told(0, ?, 1)", 0, 4);
        dueInRow(run, "told(1, ?, 0)", 5, 6);
        dueInRow(run, "told(1, ?, 1)", 7, 128);
    }

    private static void toldNumber() {
        Sentence.of(7, "NUMBER: there is no such PICTURE, or SQUARE;");
        squares("told(0, X, Y)", 0, NUMBER);
        squares("told(1, X, Y)", 0, NUMBER);
        plain().edges("told(?, 2, 1)", 0, 0, 1, 0, NUMBER);
        // also in a MISSING row
        full().dueAll(NUMBER, "told(0, -1, 1)", "told(0, 3, 1)", "told(2, 0, 1)", "told(-1, 0, 1)");
    }

    private static void toldLost() {
        Sentence.of(7, "LOST: it is (or its row).");
        Run run = full();
        run.dueAll(LOST, "told(0, 2, 0)", "told(1, 1, 1)", "told(0, 0, 1)", "told(0, 1, 1)", "told(0, 2, 1)");
        run.due("told(0, 0, 0)", 9);
        run.due("told(1, 2, 1)", 77);
        run.due("row(0, 1, false)", 1);
        run.due("told(0, 1, 1)", LOST);
        // the last of six SHADES drawn by 7
        run.due("told(0, 2, 1)", 37);
    }

    // ---- promise 8

    private static void ruleWhatItWas() {
        Sentence.of(8, "What = 0 D (0 to 8), 1 H, 2 P, 3 Q, 4 T is v: what it was.");
        int[] first = {4, 3, 1, 3, 10};
        int[] most = {8, 20, 20, 40, 255};
        Run run = Run.fresh();
        for (int what = 0; what < 5; what++) {
            String rule = "rule(" + what + ", ";
            run.due(rule + most[what] + ")", first[what]);
            run.due(rule + most[what] + ")", most[what]);
            run.due(rule + "0)", most[what]);
            run.due(rule + "0)", 0);
            run.due(rule + (most[what] - 1) + ")", 0);
            run.due(rule + "1)", most[what] - 1);
            run.due(rule + (2 + what) + ")", 1);
        }
        for (int what = 0; what < 5; what++) {
            run.due("rule(" + what + ", 0)", 2 + what);
        }
    }

    private static void ruleNumber() {
        Sentence.of(8, "NUMBER: another what, or v isn't as told.");
        full().edges("rule(?, 0)", 0, 2, 4, 20, NUMBER);
        full().edges("rule(0, ?)", 0, 2, 8, 0, NUMBER);
        full().edges("rule(1, ?)", 0, 5, 20, 0, NUMBER);
        full().edges("rule(2, ?)", 0, 2, 20, 0, NUMBER);
        full().edges("rule(3, ?)", 0, 4, 40, 0, NUMBER);
        full().edges("rule(4, ?)", 0, 20, 255, 0, NUMBER);
        full().dueAll(NUMBER, "rule(5, -1)", "rule(-1, 256)", "rule(MIN, MIN)", "rule(MAX, MAX)");
    }

    // ---- promise 9

    private static void manyEmptyAndFull() {
        Sentence.of(9, "How many: what = 0 WIDTH, 1 HEIGHT, 2, 3 LOST SQUARES of PICTURE 0, 1, 4 left SQUARES with a TOLD DEPTH, 5 SEGMENTS, 6 CUBES of THE BODY, 7 SQUARES with a TRUTH;");
        Run run = Run.after("size(20, 10)");
        int[] alike = {20, 10, 0, 0, 200, 1, 512, 0};
        for (int what = 0; what < 8; what++) {
            run.due("many(" + what + ")", alike[what]);
        }
        run.due("draw(0, 0, 20, 10, 8, 1)", 200);
        run.due("many(7)", 200);
        for (int y = 0; y < 10; y++) {
            run.due("row(0, " + y + ", true)", 1);
            run.due("outline(2, " + Math.min(y, 7) + ", 0)", Math.max(0, 512 - 64 * (y + 1)));
        }
        int[] blind = {20, 10, 200, 0, 0, 0, 0, 200};
        for (int what = 0; what < 8; what++) {
            run.due("many(" + what + ")", blind[what]);
        }
        for (int y = 0; y < 10; y++) {
            run.then("row(0, " + y + ", false)", "row(1, " + y + ", true)");
        }
        run.dueAll(200, "many(3)");
        run.dueAll(0, "many(2)", "many(4)");
        run.due("size(1, 1)", 1);
        run.dueAll(1, "many(0)", "many(1)", "many(4)", "many(5)");
        run.due("many(7)", 0);
        allSegmentsAlone();
    }

    /** A board of squares of two SHADES that differ by more than T: each is a SEGMENT. */
    private static void allSegmentsAlone() {
        Run run = Run.after("size(20, 10)", "rule(4, 0)");
        for (int i = 0; i < 10; i++) {
            run.then("shade(0, " + 2 * i + ", 0, 1)", "shade(0, " + (2 * i + 1) + ", 1, 1)");
        }
        for (int y = 2; y < 10; y++) {
            run.then("copy(0, 0, " + y % 2 + ", 20, 0, 0, " + y + ")");
        }
        run.due("many(5)", 200);
        run.due("rule(4, 1)", 0);
        run.due("many(5)", 1);
    }

    private static void manyAnotherWhat() {
        Sentence.of(9, "-1 for another what.");
        plain().edges("many(?)", 0, 3, 7, 1, -1);
        full().edges("many(?)", 0, 3, 7, 6, -1);
        Run.fresh().dueAll(-1, "many(-1)", "many(8)");
    }
}
