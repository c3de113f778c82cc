/** The promises 29 and 30, and what the terms say of all calls and of the constants. */
final class KeptSentences extends Sentences {
    private KeptSentences() {
    }

    static void all() {
        refusedChangesNothing();
        firstNamedIsAnswered();
        number();
        missing();
        size();
        none();
        lost();
        keep();
        back();
        backNone();
    }

    // ---- all calls

    /** Each alone, and all of them in one run. */
    private static void refusedChangesNothing() {
        Sentence.of(0, "A call that is refused (answers below 0, where not told otherwise) changes nothing.");
        Run run = full();
        run.dueAll(NUMBER, "size(0, 1)", "size(21, 10)", "size(1, 11)", "size(20, 0)");
        run.dueAll(NUMBER, "shade(2, 0, 0, 1)", "shade(0, 0, 2, 1)", "shade(0, 3, 0, 1)", "lose(-1, 0, 0)", "lose(0, -1, 0)");
        run.dueAll(MISSING, "shade(0, 0, 1, 1)", "lose(0, 0, 1)", "copy(0, 0, 1, 1, 1, 0, 0)", "copy(1, 0, 0, 1, 0, 0, 1)");
        run.dueAll(NUMBER, "row(0, 2, true)", "row(0, -1, false)", "row(2, 1, false)");
        run.dueAll(NUMBER, "copy(0, 0, 0, 4, 1, 0, 0)", "copy(0, 1, 0, 2, 1, 2, 0)", "copy(2, 0, 0, 1, 1, 0, 0)");
        run.due("copy(0, 1, 0, -1, 1, 1, 0)", SIZE);
        run.dueAll(NUMBER, "rule(0, 9)", "rule(1, 21)", "rule(2, 21)", "rule(3, 41)", "rule(4, 256)", "rule(5, 1)", "rule(4, -1)");
        run.dueAll(NUMBER, "draw(0, 0, 4, 1, 0, 1)", "draw(0, 0, 3, 1, 9, 1)", "draw(0, 0, 3, 0, 0, 1)");
        run.dueAll(MISSING, "draw(0, 0, 3, 2, 0, 1)", "draw(0, 1, 1, 1, 0, 1)");
        run.dueAll(NUMBER, "outline(3, 0, 0)", "outline(0, 8, 0)", "outline(-1, 0, 0)", "outline(2, -1, 0)");
        run.dueAll(NUMBER, "told(0, 3, 0)", "many(8)", "cost(0, 0, 3)", "path(2)", "matched(3, 0)", "hidden(2, 0)",
            "run(0, 0, 0, 8)", "sum(0, 0, 3)", "depth(2, 0, 0)", "agreed(0, 2)", "segment(3, 0)", "extent(3, 0)",
            "view(5, 0, 0)", "holes(5)", "truth(3, 0)", "score(4)", "empty(3)");
        run.dueAll(LOST, "told(0, 2, 0)", "segment(2, 0)", "extent(2, 0)");
        run.dueAll(NONE, "cost(2, 0, 0)", "matched(2, 0)", "view(0, 0, 1)");
        run.dueAll(-1000, "plane(3, 0, 0)", "plane(0, 0, 5)");
        run.due("plane(2, 0, 0)", -1001);
        // after all of them on one object it is as it was
        run.due("told(0, 0, 0)", 9);
        run.due("told(1, 2, 1)", 77);
        run.dueAll(6, "many(7)");
        run.due("rule(0, 0)", 2);
        run.due("rule(1, 0)", 5);
        run.due("rule(2, 0)", 2);
        run.due("rule(3, 0)", 4);
        run.due("rule(4, 0)", 20);
        run.due("row(0, 1, false)", 1);
        run.due("told(0, 2, 1)", 37);
        run.due("told(0, 1, 1)", LOST);
        run.due("back()", 1);
        dueInRow(run, "told(0, ?, 0)", 108, 78, 116);
        dueInRow(run, "told(0, ?, 1)", 146, LOST, 37);
        dueInRow(run, "told(1, ?, 0)", LOST, LOST, LOST);
        dueInRow(run, "told(1, ?, 1)", 19, 37, 0);
        Run.fresh().due("back()", NONE);
    }

    private static void firstNamedIsAnswered() {
        Sentence.of(0, "Of several refusals that a call names the first one named is answered.");
        Run run = full();
        // no PICTURE or row, MISSING, no column
        for (String call : new String[] {"shade(P, X, Y, 1)", "lose(P, X, Y)"}) {
            run.due(call.replace("P", "2").replace("X", "3").replace("Y", "1"), NUMBER);
            run.due(call.replace("P", "0").replace("X", "3").replace("Y", "2"), NUMBER);
            run.due(call.replace("P", "0").replace("X", "3").replace("Y", "1"), MISSING);
            run.due(call.replace("P", "0").replace("X", "-1").replace("Y", "1"), MISSING);
            run.due(call.replace("P", "1").replace("X", "3").replace("Y", "1"), NUMBER);
        }
        // no PICTURE or row, MISSING, SIZE, no column
        run.dueAll(NUMBER, "copy(0, 3, 1, -1, 2, 3, 0)", "copy(0, 3, 2, -1, 0, 3, 1)", "copy(-1, 3, 1, -1, 0, 3, 1)",
            "copy(0, 3, 1, -1, 1, 3, -1)");
        run.dueAll(MISSING, "copy(0, 3, 1, -1, 1, 3, 0)", "copy(1, 3, 0, -1, 0, 3, 1)", "copy(0, 4, 1, 1, 1, 0, 0)");
        run.dueAll(SIZE, "copy(0, 4, 0, -1, 1, 4, 1)", "copy(0, -1, 0, MIN, 1, -1, 1)");
        run.due("copy(0, 4, 0, 1, 1, 4, 1)", NUMBER);
        // no SQUARE, LOST
        run.dueAll(NUMBER, "told(0, 3, 1)", "told(2, 0, 1)", "segment(3, 1)", "extent(-1, 1)");
        // no SQUARE or depth, NONE
        run.dueAll(NUMBER, "cost(0, 0, 3)", "cost(2, 0, -1)", "cost(3, 1, 0)");
        run.dueAll(-1000, "plane(2, 0, 5)", "plane(0, 1, -1)", "plane(3, 1, 0)");
        // a HOLE in no VIEW
        run.dueAll(NUMBER, "view(5, 0, 1)", "view(-1, 2, 0)");
        // no board, MISSING
        run.dueAll(NUMBER, "draw(0, 1, 4, 1, 0, 1)", "draw(0, 1, 0, 1, 0, 1)", "draw(0, 1, 1, 2, 0, 1)",
            "draw(0, 1, 1, 1, 9, 1)", "draw(0, 1, 1, 1, -1, 1)", "draw(-1, 1, 1, 1, 0, 1)");
        run.due("draw(0, 1, 1, 1, 8, 1)", MISSING);
    }

    // ---- the constants

    private static void number() {
        Sentence.of(0, "`NUMBER = -1`: A number is none, or none that may be.");
        Run.same("NUMBER", TwoEyes.NUMBER, -1);
        Run.fresh().dueAll(TwoEyes.NUMBER, "size(0, 1)", "told(0, 1, 0)", "rule(0, 9)", "many(8)");
    }

    private static void missing() {
        Sentence.of(0, "`MISSING = -2`: A row is MISSING.");
        Run.same("MISSING", TwoEyes.MISSING, -2);
        Run.after("row(0, 0, true)").dueAll(TwoEyes.MISSING, "shade(0, 0, 0, 1)", "lose(0, 0, 0)", "draw(0, 0, 1, 1, 0, 1)");
    }

    private static void size() {
        Sentence.of(0, "`SIZE = -3`: A length below nought.");
        Run.same("SIZE", TwoEyes.SIZE, -3);
        Run.fresh().due("copy(0, 0, 0, -1, 1, 0, 0)", TwoEyes.SIZE);
        Run.fresh().due("copy(0, 0, 0, 0, 1, 0, 0)", 0);
    }

    private static void none() {
        Sentence.of(0, "`NONE = -4`: There is none.");
        Run.same("NONE", TwoEyes.NONE, -4);
        Run.fresh().dueAll(TwoEyes.NONE, "cost(0, 0, 1)", "truth(0, 0)", "back()");
        Run.after("lose(0, 0, 0)").dueAll(TwoEyes.NONE, "matched(0, 0)", "view(0, 0, 0)");
    }

    private static void lost() {
        Sentence.of(0, "`LOST = -5`: It is LOST.");
        Run.same("LOST", TwoEyes.LOST, -5);
        Run.after("lose(0, 0, 0)").dueAll(TwoEyes.LOST, "told(0, 0, 0)", "segment(0, 0)", "extent(0, 0)");
    }

    // ---- promises

    private static void keep() {
        Sentence.of(29, "PICTURES (with what is LOST, rows that are MISSING) and THE TRUTH are kept, in place of what was kept: 1.");
        Run run = Run.after("size(3, 2)", "shade(0, 0, 0, 1)");
        run.due("keep()", 1);
        run.then("size(20, 10)", "draw(0, 0, 20, 10, 8, 1)", "lose(1, 19, 9)", "row(0, 9, true)", "row(1, 0, true)");
        run.due("keep()", 1);
        run.due("many(0)", 20);
        run.then("size(1, 1)", "shade(0, 0, 0, 2)", "lose(1, 0, 0)");
        run.due("back()", 1);
        run.due("many(0)", 20);
        run.due("many(1)", 10);
        run.due("told(0, 0, 0)", 198);
        run.due("told(1, 19, 9)", LOST);
        run.due("many(2)", 20);
        run.due("many(3)", 21);
        run.due("many(7)", 200);
        run.due("truth(19, 9)", 8);
        run.due("row(0, 9, true)", 0);
        run.due("row(1, 0, false)", 1);
        run.due("told(1, 19, 0)", 0);
        // kept twice is kept once, and what comes later isn't kept
        Run twice = Run.after("shade(0, 0, 0, 7)");
        twice.due("keep()", 1);
        twice.due("keep()", 1);
        twice.then("shade(0, 0, 0, 8)", "row(1, 0, true)");
        twice.due("back()", 1);
        twice.due("told(0, 0, 0)", 7);
        twice.due("told(1, 0, 0)", 0);
        // with no TRUTH none is kept
        twice.then("draw(0, 0, 1, 1, 0, 1)");
        twice.due("back()", 1);
        twice.due("truth(0, 0)", NONE);
    }

    private static void back() {
        Sentence.of(30, "They become what was kept (it stays): 1.");
        Run run = full();
        for (int i = 0; i < 3; i++) {
            run.due("back()", 1);
            run.due("many(0)", 3);
            run.due("many(1)", 2);
            dueInRow(run, "told(0, ?, 0)", 108, 78, 116);
            dueInRow(run, "told(0, ?, 1)", 146, LOST, 37);
            dueInRow(run, "told(1, ?, 0)", LOST, LOST, LOST);
            dueInRow(run, "told(1, ?, 1)", 19, 37, 0);
            dueInRow(run, "truth(?, 0)", 1, 1, 1);
            dueInRow(run, "truth(?, 1)", 1, 1, 1);
            run.due("row(1, 0, false)", 1);
            dueInRow(run, "told(1, ?, 0)", 78, 116, 0);
            // the rules and THE BODY are not kept
            run.due("rule(0, " + (3 + i) + ")", 2 + i);
            run.due("outline(2, " + (4 + i) + ", 0)", cubesWithout(4, 4 + i));
            if (i == 0) {
                run.then("size(20, 10)", "shade(0, 19, 9, 3)");
            } else {
                run.then("draw(0, 0, 3, 2, 8, 5)", "lose(0, 0, 0)", "row(0, 0, true)", "row(1, 1, true)");
            }
        }
        dueFreshAfterBack();
    }

    /** What follows from the PICTURES follows from those that are back. */
    private static void dueFreshAfterBack() {
        Run run = rowOf(new int[] {9, 5}, new int[2]).then("keep()", "shade(0, 1, 0, 9)");
        run.due("cost(0, 0, 0)", 0);
        run.due("back()", 1);
        run.due("cost(0, 0, 0)", 1);
    }

    /**
     * How many CUBES the full scene has, those of some y left out: of each y 8 by 8, but z 1 has only the odd y,
     * z 6 only the x 2 to 5, and y 3 only the x 0 to 3.
     */
    private static int cubesWithout(int first, int last) {
        int count = 0;
        for (int y = 0; y < 8; y++) {
            if (y < first || y > last) {
                int wide = y == 3 ? 4 : 8;
                int atSix = y == 3 ? 2 : 4;
                count += 6 * wide + atSix + (y % 2 == 1 ? wide : 0);
            }
        }
        return count;
    }

    private static void backNone() {
        Sentence.of(30, "NONE: nothing is kept.");
        Run run = Run.after("size(3, 2)", "draw(0, 0, 3, 2, 1, 7)", "lose(0, 2, 0)", "row(1, 1, true)", "rule(0, 2)",
            "outline(1, 1, 1)");
        run.due("back()", NONE);
        run.due("keep()", 1);
        run.due("back()", 1);
        Run.fresh().due("back()", NONE);
        Run.after("size(20, 10)").due("back()", NONE);
    }
}
