/** The terms of views and scenes, and the promises 21 to 25. */
final class SceneSentences extends Sentences {
    /** What seed 1 draws below 256, one after the other. */
    private static final int[] BY_ONE = {198, 126, 129, 107, 75, 251, 226, 251, 84, 246};

    private SceneSentences() {
    }

    static void all() {
        viewColumns();
        greatestDepthStays();
        hole();
        truthOrNone();
        drawnWraps();
        drawnWithoutSign();
        viewShade();
        viewNumber();
        viewNone();
        holesCount();
        holesNumber();
        drawLeft();
        drawRight();
        drawNothingLost();
        drawNumber();
        drawMissing();
        truthPromise();
        truthNumber();
        scoreCounts();
        scoreNumber();
    }

    // ---- terms

    /** The last two SQUARES, 9 and 1, have the depth d: they go as far as the whole part of d k by 4. */
    private static void viewColumns() {
        Sentence.of(0, "VIEW k (k is 0 to 4): each left SQUARE (x, y) with a TOLD DEPTH d goes to the column x less the whole part of d k by 4;");
        int[][] less = {{0, 0, 0, 0, 0}, {0, 0, 0, 0, 1}, {0, 0, 1, 1, 2}, {0, 0, 1, 2, 3}, {0, 1, 2, 3, 4},
            {0, 1, 2, 3, 5}, {0, 1, 3, 4, 6}, {0, 1, 3, 5, 7}, {0, 2, 4, 6, 8}};
        for (int d = 0; d <= 8; d++) {
            Run run = farPair(d);
            for (int k = 0; k <= 4; k++) {
                int column = d - less[d][k];
                run.due("view(" + k + ", " + column + ", 0)", 9);
                run.due("view(" + k + ", " + (column + 1) + ", 0)", 1);
            }
        }
        farPair(8).edges("view(?, 0, 0)", 0, NONE, 4, 9, NUMBER);
        farPair(8).edges("view(?, 9, 0)", 0, 1, 4, NONE, NUMBER);
        farPair(8).edges("holes(?)", 0, 8, 4, 8, NUMBER);
    }

    /** VOTES alone count, Q being 0: (1, 0) has depth 0, (2, 0) depth 2, (3, 0) depth 0, and (0, 0) none. */
    private static Run meeting() {
        return rowOf(new int[] {4, 4, 5, 1}, new int[] {9, 5, 5, 5}).then("rule(0, 2)", "rule(3, 0)");
    }

    private static void greatestDepthStays() {
        Sentence.of(0, "where several come the one with the greatest d stays (no two of one d meet),");
        Run run = meeting();
        dueInRow(run, "agreed(?, 0)", -14, 0, 2, 0);
        dueInRow(run, "view(0, ?, 0)", NONE, 4, 5, 1);
        dueInRow(run, "view(1, ?, 0)", NONE, 4, 5, 1);
        dueInRow(run, "view(2, ?, 0)", NONE, 5, NONE, 1);
        dueInRow(run, "view(3, ?, 0)", NONE, 5, NONE, 1);
        dueInRow(run, "view(4, ?, 0)", 5, 4, NONE, 1);
    }

    private static void hole() {
        Sentence.of(0, "where none comes is a HOLE.");
        Run run = meeting();
        int[] holes = {1, 1, 2, 2, 1};
        for (int k = 0; k <= 4; k++) {
            run.due("holes(" + k + ")", holes[k]);
        }
        run.due("view(2, 2, 0)", NONE);
        // neither a LOST one comes, nor one without a TOLD DEPTH
        run.then("lose(0, 3, 0)");
        run.due("view(0, 3, 0)", NONE);
        run.due("view(0, 0, 0)", NONE);
        Run all = widest();
        all.due("holes(4)", 0);
        all.then("row(1, 9, true)");
        all.due("holes(4)", 20);
    }

    private static void truthOrNone() {
        Sentence.of(0, "THE TRUTH has for each left SQUARE a depth, or none.");
        Run run = Run.after("size(20, 10)", "draw(0, 0, 1, 1, 0, 1)", "draw(19, 9, 1, 1, 8, 1)");
        run.due("truth(0, 0)", 0);
        run.due("truth(19, 9)", 8);
        run.dueAll(NONE, "truth(1, 0)", "truth(0, 1)", "truth(18, 9)", "truth(19, 8)");
        run.due("many(7)", 2);
    }

    private static void drawnWraps() {
        Sentence.of(0, "Number below m drawn: x becomes 1103515245 x + 12345 (an int, wrapping);");
        // the ints are 12345, -740551042, -1492899873 .. and from the greatest seed 1043980748, -1858514009 ..
        dueDrawn("0", 0, 220, 4, 101, 170, 31);
        dueDrawn("1", BY_ONE);
        dueDrawn("MAX", 57, 57, 134, 94, 9, 66);
        dueDrawn("MIN", 0, 220, 4, 101, 170, 31);
        dueDrawn("7", 108, 78, 116, 146, 19, 37);
    }

    private static void drawnWithoutSign() {
        Sentence.of(0, "the NUMBER is what the int's highest 16 bits, as a number of 16 bits without sign, leave by m.");
        // -1103502900 has the highest bits 48697, then 4409, 9862, 59486, 8713, 60994
        dueDrawn("-1", 48697 % 256, 4409 % 256, 9862 % 256, 59486 % 256, 8713 % 256, 60994 % 256);
        // of the least int the highest bits are 32768, the rest 12345
        dueDrawn("MIN", 32768 % 256);
        dueDrawn("0", 0);
    }

    /** In one row, with depth 0, so that both PICTURES get them. */
    private static void dueDrawn(String seed, int... want) {
        Run run = Run.after("size(" + want.length + ", 1)");
        run.due("draw(0, 0, " + want.length + ", 1, 0, " + seed + ")", want.length);
        dueInRow(run, "told(0, ?, 0)", want);
        dueInRow(run, "told(1, ?, 0)", want);
    }

    // ---- promises 21 and 22

    private static void viewShade() {
        Sentence.of(21, "What is at a SQUARE of VIEW k: the SHADE.");
        Run run = smallRow();
        for (int k = 0; k <= 3; k++) {
            dueInRow(run, "view(" + k + ", ?, 0)", NONE, 5, 20);
        }
        dueInRow(run, "view(4, ?, 0)", 5, 20, NONE);
        Run shades = pictures(new int[][] {{0, 0}, {0, 0}}, new int[2][2]).then("shade(0, 1, 1, 255)", "shade(1, 1, 1, 255)");
        for (int k = 0; k <= 4; k++) {
            shades.due("view(" + k + ", 1, 1)", 255);
            shades.due("view(" + k + ", 0, 0)", 0);
        }
    }

    private static void viewNumber() {
        Sentence.of(21, "NUMBER: k isn't 0 to 4, or there is no such SQUARE;");
        squares("view(0, X, Y)", 0, NUMBER);
        squares("view(4, X, Y)", 0, NUMBER);
        plain().edges("view(?, 2, 1)", 0, 0, 4, 0, NUMBER);
        Run.fresh().edges("view(?, 0, 0)", 0, 0, 4, 0, NUMBER);
        full().dueAll(NUMBER, "view(5, 0, 1)", "view(-1, 0, 1)", "view(0, 3, 1)", "view(4, 0, 2)", "view(5, 3, 2)");
    }

    private static void viewNone() {
        Sentence.of(21, "NONE: a HOLE.");
        Run run = plain().then("lose(0, 1, 1)");
        for (int k = 0; k <= 4; k++) {
            run.due("view(" + k + ", 1, 1)", NONE);
            run.dueAll(0, "view(" + k + ", 0, 1)", "view(" + k + ", 2, 1)", "view(" + k + ", 1, 0)");
        }
    }

    private static void holesCount() {
        Sentence.of(22, "How many HOLES VIEW k has.");
        Run run = widest();
        for (int k = 0; k <= 4; k++) {
            run.due("holes(" + k + ")", 0);
        }
        for (int y = 0; y < 10; y++) {
            run.then("row(0, " + y + ", true)");
            run.due("holes(" + y % 5 + ")", 20 * (y + 1));
        }
        Run one = Run.fresh();
        one.dueAll(0, "holes(0)", "holes(4)");
        one.then("lose(0, 0, 0)");
        one.dueAll(1, "holes(0)", "holes(4)");
    }

    private static void holesNumber() {
        Sentence.of(22, "NUMBER: k isn't 0 to 4.");
        plain().edges("holes(?)", 0, 0, 4, 0, NUMBER);
        Run.fresh().edges("holes(?)", 0, 0, 4, 0, NUMBER);
        widest().edges("holes(?)", 0, 0, 4, 0, NUMBER);
    }

    // ---- promise 23

    private static void drawLeft() {
        Sentence.of(23, "A board is drawn into the scene: the left SQUARES (i, j) with x <= i < x + w, y <= j < y + h get drawn SHADES, by rows, each a NUMBER below 256 (seed at first), and THE TRUTH d;");
        int[][] boards = {{0, 0, 1, 1}, {3, 2, 1, 1}, {1, 1, 2, 2}, {0, 0, 4, 1}, {0, 2, 4, 1}, {3, 0, 1, 3}, {1, 0, 3, 3}};
        for (int[] b : boards) {
            Run run = pictures(new int[][] {{3, 3, 3, 3}, {3, 3, 3, 3}, {3, 3, 3, 3}}, new int[3][4]);
            run.due("draw(" + b[0] + ", " + b[1] + ", " + b[2] + ", " + b[3] + ", 8, 1)", b[2] * b[3]);
            int drawn = 0;
            for (int y = 0; y < 3; y++) {
                for (int x = 0; x < 4; x++) {
                    boolean inside = x >= b[0] && x < b[0] + b[2] && y >= b[1] && y < b[1] + b[3];
                    run.due("told(0, " + x + ", " + y + ")", inside ? BY_ONE[drawn] : 3);
                    run.due("truth(" + x + ", " + y + ")", inside ? 8 : NONE);
                    drawn += inside ? 1 : 0;
                }
            }
            run.due("many(7)", b[2] * b[3]);
        }
        Run again = Run.after("size(2, 1)", "draw(0, 0, 2, 1, 8, 1)");
        again.due("draw(1, 0, 1, 1, 0, 1)", 1);
        dueInRow(again, "told(0, ?, 0)", 198, 198);
        dueInRow(again, "truth(?, 0)", 8, 0);
        // what follows from the SHADES follows from the new ones
        Run cost = rowOf(new int[] {9, 5}, new int[2]);
        cost.due("cost(0, 0, 0)", 1);
        cost.due("draw(0, 0, 2, 1, 0, 1)", 2);
        cost.due("cost(0, 0, 0)", 0);
        Run all = Run.after("size(20, 10)");
        all.due("draw(0, 0, 20, 10, 0, 1)", 200);
        all.dueAll(198, "told(0, 0, 0)", "told(1, 0, 0)");
        all.due("many(7)", 200);
    }

    private static void drawRight() {
        Sentence.of(23, "then each of them whose column i - d is in the PICTURE gives the right SQUARE (i - d, j) its SHADE;");
        for (int d = 0; d <= 8; d++) {
            Run run = Run.after("size(10, 2)");
            run.due("draw(0, 1, 10, 1, " + d + ", 1)", 10);
            int[] right = new int[10];
            System.arraycopy(BY_ONE, d, right, 0, 10 - d);
            dueInRow(run, "told(0, ?, 1)", BY_ONE);
            dueInRow(run, "told(1, ?, 1)", right);
            dueInRow(run, "told(1, ?, 0)", new int[10]);
        }
        // column 0 is the last that is one
        Run edge = Run.after("size(10, 1)");
        edge.due("draw(8, 0, 1, 1, 8, 1)", 1);
        edge.due("told(1, 0, 0)", 198);
        Run outside = Run.after("size(10, 2)");
        outside.due("draw(7, 1, 1, 1, 8, 1)", 1);
        for (String call : forEach(10, 2, "told(1, X, Y)")) {
            outside.due(call, 0);
        }
    }

    private static void drawNothingLost() {
        Sentence.of(23, "no SQUARE is LOST by it, and those that get a SHADE aren't any more: how many left ones.");
        int[][] lost = {{LOST, LOST, LOST, LOST}, {LOST, LOST, LOST, LOST}};
        Run run = pictures(lost, lost);
        run.due("draw(1, 0, 2, 1, 2, 1)", 2);
        dueInRow(run, "told(0, ?, 0)", LOST, 198, 126, LOST);
        dueInRow(run, "told(1, ?, 0)", 126, LOST, LOST, LOST);
        run.dueAll(LOST, "told(0, 1, 1)", "told(1, 0, 1)");
        run.due("draw(0, 0, 4, 2, 0, 1)", 8);
        run.dueAll(0, "many(2)", "many(3)");
        Run whole = Run.after("size(3, 2)");
        whole.due("draw(0, 0, 3, 2, 8, 1)", 6);
        whole.dueAll(0, "many(2)", "many(3)");
    }

    private static void drawNumber() {
        Sentence.of(23, "NUMBER: the board isn't in the PICTURE whole, or w or h is below 1, or d isn't 0 to 8;");
        plain().edges("draw(?, 0, 1, 1, 0, 1)", 0, 1, 2, 1, NUMBER);
        plain().edges("draw(?, 0, 2, 1, 0, 1)", 0, 2, 1, 2, NUMBER);
        plain().edges("draw(?, 0, 3, 2, 0, 1)", 0, 6, 0, 6, NUMBER);
        plain().edges("draw(0, ?, 1, 1, 0, 1)", 0, 1, 1, 1, NUMBER);
        plain().edges("draw(0, ?, 1, 2, 0, 1)", 0, 2, 0, 2, NUMBER);
        plain().edges("draw(0, 0, ?, 1, 0, 1)", 1, 1, 3, 3, NUMBER);
        plain().edges("draw(2, 0, ?, 1, 0, 1)", 1, 1, 1, 1, NUMBER);
        plain().edges("draw(0, 0, 1, ?, 0, 1)", 1, 1, 2, 2, NUMBER);
        plain().edges("draw(0, 1, 1, ?, 0, 1)", 1, 1, 1, 1, NUMBER);
        plain().edges("draw(0, 0, 1, 1, ?, 1)", 0, 1, 8, 1, NUMBER);
        Run.fresh().edges("draw(0, 0, 1, 1, ?, 1)", 0, 1, 8, 1, NUMBER);
        widest().edges("draw(0, 0, ?, 10, 0, 1)", 1, 10, 20, 200, NUMBER);
        widest().edges("draw(0, 0, 20, ?, 8, 1)", 1, 20, 10, 200, NUMBER);
        widest().edges("draw(?, 9, 1, 1, 8, 1)", 0, 1, 19, 1, NUMBER);
        // sums that wrap around, nothing behind the last column or row, and lengths that lead back
        plain().dueAll(NUMBER, "draw(1, 0, MAX, 1, 0, 1)", "draw(MAX, 0, MAX, 1, 0, 1)", "draw(MAX, 0, 1, 1, 0, 1)",
            "draw(0, 1, 1, MAX, 0, 1)", "draw(0, MAX, 1, MAX, 0, 1)", "draw(MIN, 0, MAX, 1, 0, 1)",
            "draw(0, MIN, 1, MIN, 0, 1)", "draw(3, 0, 0, 1, 0, 1)", "draw(0, 2, 1, 0, 0, 1)",
            "draw(2, 1, -1, -1, 0, 1)", "draw(2, 0, -2, 1, 0, 1)", "draw(-1, 0, 4, 1, 0, 1)",
            "draw(-1, -1, 1, 1, 0, 1)", "draw(-1, 0, 1, 1, 0, 1)", "draw(0, 0, 0, 0, 0, 1)", "draw(0, 0, 3, 2, 9, 1)");
        // d is not bound by D
        Run shallow = Run.after("rule(0, 0)");
        shallow.due("draw(0, 0, 1, 1, 8, 1)", 1);
        shallow.due("truth(0, 0)", 8);
    }

    private static void drawMissing() {
        Sentence.of(23, "MISSING: one of these rows is, of either PICTURE.");
        for (int picture = 0; picture < 2; picture++) {
            for (int y = 0; y < 4; y++) {
                Run run = Run.after("size(2, 4)", "shade(0, 1, 1, 9)", "row(" + picture + ", " + y + ", true)");
                boolean inside = y == 1 || y == 2;
                run.due("draw(0, 1, 2, 2, 0, 1)", inside ? MISSING : 4);
                run.due("draw(1, " + y + ", 1, 1, 0, 1)", MISSING);
                // also where the right one would get nothing
                run.due("draw(0, " + y + ", 1, 1, 8, 1)", MISSING);
                run.due("draw(0, 0, 2, 4, 8, 1)", MISSING);
                // a wrong number is named before
                run.dueAll(NUMBER, "draw(0, " + y + ", 1, 1, 9, 1)", "draw(0, " + y + ", 3, 1, 0, 1)",
                    "draw(0, " + y + ", 0, 1, 0, 1)", "draw(-1, " + y + ", 1, 1, 0, 1)", "draw(0, " + y + ", 1, 5, 0, 1)");
                run.due("row(" + picture + ", " + y + ", false)", 1);
                run.due("draw(0, 0, 2, 4, 8, 1)", 8);
            }
        }
    }

    // ---- promises 24 and 25

    private static void truthPromise() {
        Sentence.of(24, "THE TRUTH of a left SQUARE; NONE.");
        Run run = Run.after("size(3, 2)", "draw(0, 0, 2, 1, 8, 1)", "draw(1, 0, 1, 2, 0, 1)");
        dueInRow(run, "truth(?, 0)", 8, 0, NONE);
        dueInRow(run, "truth(?, 1)", NONE, 0, NONE);
        // a new SHADE, what is LOST or copied, or a MISSING row leaves it
        run.then("shade(0, 0, 0, 1)", "lose(0, 1, 0)", "copy(0, 0, 0, 2, 0, 1, 0)", "row(0, 1, true)", "row(1, 0, true)");
        dueInRow(run, "truth(?, 0)", 8, 0, NONE);
        dueInRow(run, "truth(?, 1)", NONE, 0, NONE);
        run.then("size(3, 2)");
        dueInRow(run, "truth(?, 0)", NONE, NONE, NONE);
    }

    private static void truthNumber() {
        Sentence.of(24, "NUMBER: there is no such SQUARE.");
        Run.after("draw(0, 0, 1, 1, 3, 1)").edges("truth(?, 0)", 0, 3, 0, 3, NUMBER);
        Run.after("draw(0, 0, 1, 1, 3, 1)").edges("truth(0, ?)", 0, 3, 0, 3, NUMBER);
        full().edges("truth(?, 1)", 0, 1, 2, 1, NUMBER);
        full().edges("truth(2, ?)", 0, 1, 1, 1, NUMBER);
        Run wide = widest().then("draw(0, 0, 20, 10, 8, 1)");
        wide.edges("truth(?, 9)", 0, 8, 19, 8, NUMBER);
        wide.edges("truth(19, ?)", 0, 8, 9, 8, NUMBER);
    }

    private static void scoreCounts() {
        Sentence.of(25, "How many left SQUARES with a TRUTH have: what = 0 just it as TOLD DEPTH, 1 another TOLD DEPTH, 2 none; 3 just it as what they are MATCHED by.");
        // both PICTURES alike: all depths are 0
        Run just = Run.after("size(20, 10)", "draw(0, 0, 20, 10, 0, 1)");
        dueScores(just, 200, 0, 0, 200);
        Run other = Run.after("size(20, 10)", "draw(0, 0, 20, 10, 8, 1)");
        for (int y = 0; y < 10; y++) {
            other.then("copy(0, 0, " + y + ", 20, 1, 0, " + y + ")");
        }
        dueScores(other, 0, 200, 0, 0);
        for (int y = 0; y < 10; y++) {
            other.then("row(0, " + y + ", true)");
        }
        dueScores(other, 0, 0, 200, 0);
        // without a TRUTH none counts
        dueScores(widest(), 0, 0, 0, 0);
        Run one = widest().then("draw(19, 9, 1, 1, 0, 1)");
        dueScores(one, 1, 0, 0, 1);
        // a SQUARE without a TOLD DEPTH, or HIDDEN, has not the TRUTH 0
        Run hidden = Run.after("draw(0, 0, 1, 1, 0, 1)", "lose(1, 0, 0)");
        dueScores(hidden, 0, 0, 1, 0);
        // the TRUTH may be greater than D; TOLD are -14, 1, 1 and MATCHED 0, 0, 0, or with H 1 NONE, 1, 1
        Run small = Run.after("size(3, 1)", "draw(0, 0, 3, 1, 1, 1)");
        fill(small, 0, 0, 10, 5, 20);
        fill(small, 1, 0, 5, 20, 10);
        small.then("rule(0, 1)");
        dueScores(small, 2, 0, 1, 0);
        small.then("rule(1, 1)");
        dueScores(small, 2, 0, 1, 2);
        small.then("rule(0, 0)");
        dueScores(small, 0, 3, 0, 0);
    }

    private static void dueScores(Run run, int... want) {
        for (int what = 0; what < want.length; what++) {
            run.due("score(" + what + ")", want[what]);
        }
    }

    private static void scoreNumber() {
        Sentence.of(25, "NUMBER: another what.");
        full().edges("score(?)", 0, 0, 3, 0, NUMBER);
        plain().edges("score(?)", 0, 0, 3, 0, NUMBER);
        Run.fresh().edges("score(?)", 0, 0, 3, 0, NUMBER);
    }
}
