/** The terms of costs and paths, and the promises 10 to 13. */
final class PathSentences extends Sentences {
    private static final int[][] AWAY = {{-1, -1}, {0, -1}, {1, -1}, {-1, 0}, {1, 0}, {-1, 1}, {0, 1}, {1, 1}};

    private PathSentences() {
    }

    static void all() {
        neighbours();
        known();
        dark();
        costDepths();
        costNone();
        costCount();
        pathMatches();
        pathLeftHidden();
        pathRightHidden();
        pathEnds();
        pathLeast();
        pathFirstUnlike();
        costPromise();
        costNumber();
        costPromiseNone();
        pathCosts();
        pathNumber();
        matchedDepth();
        matchedNone();
        matchedNumber();
        hiddenCount();
        hiddenNumber();
    }

    // ---- terms of costs

    /**
     * 3 by 3 SQUARES, all of which VOTE 8 for depth 3: so the RUN of the middle one has 8 more from each
     * NEIGHBOUR that isn't LOST.
     */
    private static void neighbours() {
        Sentence.of(0, "NEIGHBOUR k of a SQUARE, k being 0 to 7: above left, above, above right, left, right, below left, below, below right.");
        Run run = Run.after("size(3, 3)", "rule(0, 3)", "rule(2, 20)", "rule(3, 40)");
        run.edges("run(1, 1, 3, ?)", 0, 16, 7, 16, NUMBER);
        for (int k = 0; k < 8; k++) {
            String at = "(0, " + (1 + AWAY[k][0]) + ", " + (1 + AWAY[k][1]);
            run.due("lose" + at + ")", 1);
            for (int way = 0; way < 8; way++) {
                run.due("run(1, 1, 3, " + way + ")", way == k ? 8 : 16);
            }
            run.due("shade" + at + ", 0)", 1);
        }
    }

    /** A left SQUARE of 9 among 0, all right ones being 9: each NEIGHBOUR that is KNOWN is DARK of one. */
    private static void known() {
        Sentence.of(0, "It is KNOWN if both it and the SQUARE are in the PICTURE and not LOST;");
        Run run = pictures(new int[3][3], new int[][] {{9, 9, 9}, {9, 9, 9}, {9, 9, 9}});
        int[][] count = {{3, 5, 3}, {5, 8, 5}, {3, 5, 3}};
        for (int y = 0; y < 3; y++) {
            for (int x = 0; x < 3; x++) {
                String at = x + ", " + y;
                run.then("shade(0, " + at + ", 9)");
                run.due("cost(" + at + ", 0)", count[y][x]);
                run.then("shade(0, " + at + ", 0)");
            }
        }
        run.then("shade(0, 1, 1, 9)");
        for (int k = 0; k < 8; k++) {
            String at = (1 + AWAY[k][0]) + ", " + (1 + AWAY[k][1]);
            run.then("lose(0, " + at + ")");
            run.due("cost(1, 1, 0)", 7);
            run.then("shade(0, " + at + ", 0)", "lose(1, " + at + ")");
            run.due("cost(1, 1, 0)", 7);
            run.then("lose(0, " + at + ")");
            run.due("cost(1, 1, 0)", 7);
            run.then("shade(0, " + at + ", 0)", "shade(1, " + at + ", 9)");
            run.due("cost(1, 1, 0)", 8);
        }
        run.then("row(0, 0, true)");
        run.due("cost(1, 1, 0)", 5);
        run.then("row(1, 2, true)");
        run.due("cost(1, 1, 0)", 2);
        run.then("lose(0, 1, 1)");
        run.due("cost(1, 1, 0)", NONE);
        Run line = rowOf(new int[] {0, 9, 0}, new int[] {9, 9, 9});
        line.due("cost(1, 0, 0)", 2);
        line.due("cost(1, 0, 1)", 1);
        Run.after("shade(0, 0, 0, 9)").due("cost(0, 0, 0)", 0);
    }

    private static void dark() {
        Sentence.of(0, "then it is DARK if its SHADE is below the SQUARE's.");
        int[][] dueOne = {{5, 4, 1}, {5, 5, 0}, {5, 6, 0}, {1, 0, 1}, {0, 0, 0}, {0, 255, 0}, {255, 254, 1}, {255, 255, 0},
            {255, 0, 1}};
        for (int[] own : dueOne) {
            Run left = rowOf(new int[] {own[0], own[1]}, new int[] {7, 7});
            left.due("cost(0, 0, 0)", own[2]);
            Run right = rowOf(new int[] {7, 7}, new int[] {own[0], own[1]});
            right.due("cost(0, 0, 0)", own[2]);
            Run both = rowOf(new int[] {own[0], own[1]}, new int[] {8, 7});
            both.due("cost(0, 0, 0)", 1 - own[2]);
        }
    }

    private static void costDepths() {
        Sentence.of(0, "COST of (x, y, d), d being 0 to D:");
        for (int deep = 0; deep <= 8; deep += 4) {
            Run run = Run.after("size(10, 1)", "rule(0, " + deep + ")");
            run.edges("cost(9, 0, ?)", 0, 0, deep, 0, NUMBER);
        }
    }

    private static void costNone() {
        Sentence.of(0, "for the left SQUARE (x, y) and the right one (x - d, y): none if that isn't in the PICTURE, or one of both is LOST;");
        Run run = Run.after("size(10, 2)", "rule(0, 8)");
        for (int x = 0; x < 9; x++) {
            run.due("cost(" + x + ", 1, " + x + ")", 0);
            if (x < 8) {
                run.due("cost(" + x + ", 1, " + (x + 1) + ")", NONE);
            }
        }
        run.due("cost(0, 1, 8)", NONE);
        Run lost = Run.after("size(4, 2)", "lose(0, 3, 1)");
        lost.dueAll(NONE, "cost(3, 1, 0)", "cost(3, 1, 2)");
        lost.dueAll(0, "cost(2, 1, 0)", "cost(3, 0, 0)");
        lost.then("lose(1, 1, 1)");
        lost.dueAll(NONE, "cost(3, 1, 2)", "cost(1, 1, 0)", "cost(2, 1, 1)");
        lost.then("shade(0, 3, 1, 0)");
        lost.due("cost(3, 1, 2)", NONE);
        lost.dueAll(0, "cost(3, 1, 0)", "cost(3, 1, 1)", "cost(3, 1, 3)");
        lost.then("row(0, 0, true)");
        lost.due("cost(0, 0, 0)", NONE);
        lost.then("row(0, 0, false)", "row(1, 0, true)");
        lost.due("cost(0, 0, 0)", NONE);
    }

    private static void costCount() {
        Sentence.of(0, "else how many k there are whose NEIGHBOURS are KNOWN of both, and DARK of just one.");
        Run run = pictures(new int[3][4], new int[3][4]);
        run.then("shade(0, 2, 1, 9)");
        run.due("cost(2, 1, 0)", 8);
        // of the right (1, 1) one NEIGHBOUR fewer is DARK with each step
        run.then("shade(1, 1, 1, 9)");
        run.due("cost(2, 1, 1)", 0);
        for (int k = 0; k < 8; k++) {
            run.then("shade(1, " + (1 + AWAY[k][0]) + ", " + (1 + AWAY[k][1]) + ", 9)");
            run.due("cost(2, 1, 1)", k + 1);
        }
        for (int k = 0; k < 8; k++) {
            run.then("lose(1, " + (1 + AWAY[k][0]) + ", " + (1 + AWAY[k][1]) + ")");
            run.due("cost(2, 1, 1)", 7 - k);
        }
    }

    // ---- terms of paths

    /** All but one SQUARE of either row are LOST: it is MATCHED if its d is 0 to D. */
    private static Run lonePair(int width, int left, int right) {
        int[][] rows = new int[2][width];
        for (int x = 0; x < width; x++) {
            rows[0][x] = x == left ? 5 : LOST;
            rows[1][x] = x == right ? 5 : LOST;
        }
        return rowOf(rows[0], rows[1]);
    }

    private static void pathMatches() {
        Sentence.of(0, "THE PATH of row y goes through the row's left SQUARES and its right ones, both from column 0 on, by steps: 0: a left SQUARE x and a right one x - d, both next, are MATCHED: costs COST of (x, y, d), if there is one (d is 0 to D);");
        for (int d : new int[] {0, 1, 4, 8}) {
            Run run = lonePair(10, 9, 9 - d).then("rule(0, " + d + ")");
            run.due("path(0)", 18 * 3);
            run.due("matched(9, 0)", d);
            if (d > 0) {
                run.then("rule(0, " + (d - 1) + ")");
                run.due("path(0)", 20 * 3);
                run.due("matched(9, 0)", NONE);
            }
        }
        // d would be 9, or -1
        Run far = lonePair(10, 9, 0).then("rule(0, 8)");
        far.due("path(0)", 20 * 3);
        far.due("matched(9, 0)", NONE);
        Run behind = lonePair(10, 8, 9).then("rule(0, 8)");
        behind.due("path(0)", 20 * 3);
        behind.due("matched(8, 0)", NONE);
        // two matches, and between them what can't be matched
        Run apart = rowOf(new int[] {LOST, LOST, 5, 5}, new int[] {5, LOST, LOST, 5}).then("rule(0, 3)");
        apart.due("path(0)", 4 * 3);
        dueInRow(apart, "matched(?, 0)", NONE, NONE, 2, 0);
        // the right one is next just once
        Run once = rowOf(new int[] {LOST, LOST, 5, 5}, new int[] {5, LOST, LOST, LOST}).then("rule(0, 3)");
        once.due("path(0)", 6 * 3);
        dueInRow(once, "matched(?, 0)", NONE, NONE, 2, NONE);
        // a match costs what its COST is
        Run dear = rowOf(new int[] {10, 5, 20}, new int[] {5, 20, 10}).then("rule(0, 0)", "rule(1, 20)");
        dear.due("path(0)", 1 + 2 + 1);
    }

    private static void pathLeftHidden() {
        Sentence.of(0, "1: the next left SQUARE is HIDDEN: costs H (0 to 20; 3 at first);");
        Run run = Run.after("lose(0, 0, 0)");
        run.due("path(0)", 3 + 3);
        run.due("matched(0, 0)", NONE);
        run.due("hidden(0, 0)", 1);
        run.edges("rule(1, ?)", 0, 3, 20, 0, NUMBER);
        run.due("path(0)", 20 + 20);
        run.due("rule(1, 0)", 20);
        run.due("path(0)", 0);
        run.due("rule(1, 1)", 0);
        run.due("path(0)", 1 + 1);
    }

    private static void pathRightHidden() {
        Sentence.of(0, "2: the next right one is HIDDEN: H.");
        Run run = Run.after("size(2, 1)", "lose(1, 0, 0)", "rule(0, 0)");
        run.due("path(0)", 3 + 3);
        run.due("hidden(1, 0)", 1);
        run.due("matched(1, 0)", 0);
        run.edges("rule(1, ?)", 0, 3, 20, 0, NUMBER);
        run.due("path(0)", 20 + 20);
        run.due("rule(1, 0)", 20);
        run.due("path(0)", 0);
    }

    private static void pathEnds() {
        Sentence.of(0, "It ends behind the last ones of both.");
        Run one = Run.fresh();
        one.due("path(0)", 0);
        one.due("matched(0, 0)", 0);
        one.then("row(1, 0, true)");
        one.dueAll(1, "hidden(0, 0)", "hidden(1, 0)");
        one.due("path(0)", 6);
        Run wide = widest().then("row(0, 9, true)");
        wide.dueAll(20, "hidden(0, 9)", "hidden(1, 9)");
        wide.due("path(9)", 40 * 3);
        wide.dueAll(NONE, "matched(0, 9)", "matched(19, 9)");
        wide.dueAll(0, "matched(0, 8)", "matched(19, 8)", "hidden(0, 8)", "hidden(1, 8)", "path(8)");
        // what is left of the right row is HIDDEN behind the last match, too
        Run rest = lonePair(4, 3, 1);
        rest.due("path(0)", 6 * 3);
        rest.dueAll(3, "hidden(0, 0)", "hidden(1, 0)");
    }

    /** All by 0 cost 4; the first left and the last right one HIDDEN cost 2 H, the rest nothing. */
    private static void pathLeast() {
        Sentence.of(0, "THE PATH is one of least costs;");
        int[][] due = {{0, 0}, {1, 2}, {2, 4}, {3, 4}, {20, 4}};
        for (int[] pair : due) {
            Run run = smallRow().then("rule(1, " + pair[0] + ")");
            run.due("path(0)", pair[1]);
        }
        Run cheap = smallRow().then("rule(1, 1)");
        dueInRow(cheap, "matched(?, 0)", NONE, 1, 1);
        Run dear = smallRow().then("rule(1, 3)");
        dueInRow(dear, "matched(?, 0)", 0, 0, 0);
    }

    private static void pathFirstUnlike() {
        Sentence.of(0, "of several that whose step is the least one where they are first unlike.");
        // 0 before 1: to match costs as much as to hide
        Run match = smallRow().then("rule(1, 2)");
        match.due("path(0)", 4);
        dueInRow(match, "matched(?, 0)", 0, 0, 0);
        Run free = Run.after("size(20, 1)", "rule(1, 0)");
        free.due("path(0)", 0);
        free.dueAll(0, "matched(0, 0)", "matched(19, 0)", "hidden(0, 0)", "hidden(1, 0)");
        // 1 before 2: both left ones are HIDDEN before a right one, so none is left to match
        Run hide = Run.after("size(2, 1)", "lose(0, 0, 0)", "rule(0, 0)", "rule(1, 0)");
        hide.due("path(0)", 0);
        dueInRow(hide, "matched(?, 0)", NONE, NONE);
        hide.dueAll(2, "hidden(0, 0)", "hidden(1, 0)");
        // with D 1 the second left one can be MATCHED before anything else is HIDDEN
        hide.then("rule(0, 1)");
        dueInRow(hide, "matched(?, 0)", NONE, 1);
        hide.dueAll(1, "hidden(0, 0)", "hidden(1, 0)");
    }

    // ---- promises

    private static void costPromise() {
        Sentence.of(10, "COST of (x, y, d).");
        Run run = smallRow();
        dueInRow(run, "cost(?, 0, 0)", 1, 2, 1);
        dueInRow(run, "cost(?, 0, 1)", NONE, 0, 0);
        run.then("rule(0, 2)");
        dueInRow(run, "cost(?, 0, 2)", NONE, NONE, 0);
    }

    private static void costNumber() {
        Sentence.of(10, "NUMBER: there is no such SQUARE, or d isn't 0 to D;");
        squares("cost(X, Y, 0)", 0, NUMBER);
        plain().edges("cost(2, 1, ?)", 0, 0, 2, 0, NUMBER);
        widest().edges("cost(19, 9, ?)", 0, 0, 8, 0, NUMBER);
        Run.after("rule(0, 0)").edges("cost(0, 0, ?)", 0, 0, 0, 0, NUMBER);
        // also where there would be none
        full().dueAll(NUMBER, "cost(0, 0, 3)", "cost(2, 0, -1)", "cost(3, 1, 0)", "cost(-1, 1, 0)", "cost(0, 2, 1)");
    }

    private static void costPromiseNone() {
        Sentence.of(10, "NONE.");
        Run run = plain();
        run.dueAll(0, "cost(0, 0, 0)", "cost(1, 0, 1)", "cost(2, 0, 2)");
        run.dueAll(NONE, "cost(0, 0, 1)", "cost(0, 0, 2)", "cost(1, 0, 2)");
        full().dueAll(NONE, "cost(2, 0, 0)", "cost(0, 1, 0)", "cost(2, 1, 1)");
    }

    private static void pathCosts() {
        Sentence.of(11, "What THE PATH of row y costs.");
        Run wide = Run.after("size(20, 10)", "rule(1, 20)", "row(0, 9, true)", "row(1, 0, true)", "lose(0, 19, 5)");
        wide.dueAll(800, "path(0)", "path(9)");
        wide.dueAll(0, "path(1)", "path(8)");
        wide.due("path(5)", 40);
        wide.then("rule(1, 0)");
        wide.dueAll(0, "path(0)", "path(5)", "path(9)");
    }

    private static void pathNumber() {
        Sentence.of(11, "NUMBER: there is no such row.");
        squares("path(Y)", 0, NUMBER);
        full().dueAll(NUMBER, "path(-1)", "path(2)", "path(9)");
    }

    private static void matchedDepth() {
        Sentence.of(12, "By THE PATH of its row: the d of the left SQUARE (x, y) that is MATCHED;");
        Run far = lonePair(10, 9, 1).then("rule(0, 8)");
        far.due("matched(9, 0)", 8);
        Run near = lonePair(10, 9, 9);
        near.due("matched(9, 0)", 0);
        Run rows = Run.after("size(3, 2)", "lose(0, 0, 1)", "lose(1, 2, 1)");
        dueInRow(rows, "matched(?, 0)", 0, 0, 0);
        dueInRow(rows, "matched(?, 1)", NONE, 1, 1);
    }

    private static void matchedNone() {
        Sentence.of(12, "NONE: it is HIDDEN.");
        Run run = plain().then("lose(0, 2, 1)");
        run.due("matched(2, 1)", NONE);
        run.dueAll(0, "matched(0, 1)", "matched(1, 1)", "matched(2, 0)");
        run.then("row(1, 0, true)");
        dueInRow(run, "matched(?, 0)", NONE, NONE, NONE);
    }

    private static void matchedNumber() {
        Sentence.of(12, "NUMBER: there is no such SQUARE.");
        squares("matched(X, Y)", 0, NUMBER);
        full().dueAll(NUMBER, "matched(3, 1)", "matched(-1, 1)", "matched(0, 2)");
    }

    private static void hiddenCount() {
        Sentence.of(13, "How many SQUARES of PICTURE 0 or 1 are HIDDEN by THE PATH of row y.");
        Run run = Run.after("size(20, 10)", "lose(0, 7, 4)", "row(1, 9, true)");
        run.dueAll(0, "hidden(0, 0)", "hidden(1, 0)");
        run.dueAll(1, "hidden(0, 4)", "hidden(1, 4)");
        run.dueAll(20, "hidden(0, 9)", "hidden(1, 9)");
    }

    private static void hiddenNumber() {
        Sentence.of(13, "NUMBER: there is no such PICTURE, or row.");
        squares("hidden(0, Y)", 0, NUMBER);
        squares("hidden(1, Y)", 0, NUMBER);
        plain().edges("hidden(?, 1)", 0, 0, 1, 0, NUMBER);
        Run.fresh().edges("hidden(?, 0)", 0, 0, 1, 0, NUMBER);
        full().dueAll(NUMBER, "hidden(2, 1)", "hidden(-1, 1)", "hidden(0, 2)");
    }
}
