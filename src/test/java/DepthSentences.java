/** The terms of sums and depths, and the promises 14 to 17. */
final class DepthSentences extends Sentences {
    private DepthSentences() {
    }

    static void all() {
        voteLost();
        voteOutside();
        voteRightLost();
        voteCost();
        runFromOutside();
        runOfTheSameDepth();
        runOfTheNextDepths();
        runOfAnyDepth();
        sumOfEight();
        leftDepth();
        rightDepth();
        toldDepth();
        why();
        runPromise();
        runNumber();
        sumPromise();
        sumNumber();
        depthPromise();
        depthNumber();
        agreedPromise();
        agreedNumber();
    }

    // ---- terms: in one row all WAYS but two come from outside, so that RUN along way 1 is VOTE

    private static void voteLost() {
        Sentence.of(0, "SUMS: VOTE of (x, y, d) is 0 if the left SQUARE (x, y) is LOST;");
        Run run = smallRow();
        run.due("run(0, 0, 1, 1)", 8);
        run.due("run(1, 0, 0, 1)", 2);
        run.then("lose(0, 0, 0)", "lose(0, 1, 0)");
        run.dueAll(0, "run(0, 0, 0, 1)", "run(0, 0, 1, 1)", "run(1, 0, 0, 1)", "run(1, 0, 1, 1)");
        run.then("shade(0, 0, 0, 10)");
        run.due("run(0, 0, 1, 1)", 8);
        run.then("row(0, 0, true)");
        run.due("run(0, 0, 1, 1)", 0);
    }

    private static void voteOutside() {
        Sentence.of(0, "else 8 if the right one (x - d, y) isn't in the PICTURE;");
        Run run = Run.after("size(10, 1)", "rule(0, 8)");
        for (int x = 0; x < 8; x++) {
            run.due("run(" + x + ", 0, " + x + ", 1)", 0);
            run.due("run(" + x + ", 0, " + (x + 1) + ", 1)", 8);
        }
        run.due("run(8, 0, 8, 1)", 0);
        run.due("run(0, 0, 8, 1)", 8);
        run.then("row(1, 0, true)");
        run.due("run(0, 0, 8, 1)", 8);
        run.then("row(0, 0, true)");
        run.due("run(0, 0, 8, 1)", 0);
    }

    private static void voteRightLost() {
        Sentence.of(0, "else 0 if that is LOST;");
        Run run = smallRow();
        run.due("run(1, 0, 0, 1)", 2);
        run.then("lose(1, 1, 0)");
        run.due("run(1, 0, 0, 1)", 0);
        run.due("run(0, 0, 1, 1)", 8);
        run.then("shade(1, 1, 0, 20)");
        run.due("run(1, 0, 0, 1)", 2);
        run.then("row(1, 0, true)");
        run.dueAll(0, "run(0, 0, 0, 1)", "run(1, 0, 0, 1)", "run(1, 0, 1, 1)", "run(2, 0, 0, 1)");
        run.due("run(0, 0, 1, 1)", 8);
    }

    private static void voteCost() {
        Sentence.of(0, "else COST.");
        Run run = smallRow();
        dueInRow(run, "run(?, 0, 0, 1)", 1, 2, 1);
        dueInRow(run, "run(?, 0, 1, 1)", 8, 0, 0);
        // with D 0 all is taken off that is the same for every depth, so the greatest COST alone is left
        Run most = pictures(new int[][] {{0, 0, 0}, {0, 9, 0}, {0, 0, 0}}, new int[3][3]).then("rule(0, 0)");
        for (int k = 0; k < 8; k++) {
            most.due("run(1, 1, 0, " + k + ")", 8);
        }
    }

    private static void runFromOutside() {
        Sentence.of(0, "Along each of the eight WAYS (from NEIGHBOUR k to the SQUARE): RUN of (x, y, d) is VOTE, if that NEIGHBOUR isn't in the PICTURE;");
        Run one = Run.fresh();
        for (int k = 0; k < 8; k++) {
            one.due("run(0, 0, 0, " + k + ")", 0);
            one.due("run(0, 0, 1, " + k + ")", 8);
        }
        // 3 by 3: all VOTE 8 for depth 3, so from inside there is P or more
        Run run = Run.after("size(3, 3)", "rule(0, 3)");
        int[][] away = {{-1, -1}, {0, -1}, {1, -1}, {-1, 0}, {1, 0}, {-1, 1}, {0, 1}, {1, 1}};
        for (int k = 0; k < 8; k++) {
            for (int y = 0; y < 3; y++) {
                for (int x = 0; x < 3; x++) {
                    int u = x + away[k][0];
                    int v = y + away[k][1];
                    boolean inside = u >= 0 && u < 3 && v >= 0 && v < 3;
                    // in column 2 nothing votes against depth 2, so that it is P more; elsewhere it is Q
                    int more = !inside ? 0 : u == 2 ? 1 : 3;
                    run.due("run(" + x + ", " + y + ", 3, " + k + ")", 8 + more);
                }
            }
        }
    }

    /**
     * By depths 0, 1, 2 the left (2, 0) costs 2, 2, 0, and (1, 0) 0, 1, outside; (3, 0) costs nothing. So along
     * way 4, from the right, the least RUN at (2, 0) is 2 with D 1, and 0 with D 2.
     */
    private static Run threeDepths() {
        return rowOf(new int[] {5, 5, 9, 5}, new int[] {9, 5, 5, 5});
    }

    private static void runOfTheSameDepth() {
        Sentence.of(0, "else VOTE and, M being the least RUN there of any d, the least of these less M: RUN there of d;");
        Run run = threeDepths().then("rule(0, 1)");
        run.dueAll(2, "run(2, 0, 0, 4)", "run(2, 0, 1, 4)");
        run.due("run(1, 0, 0, 4)", 0);
        run.due("run(1, 0, 1, 4)", 1);
        // it grows by 8 from row to row, where P and Q are dear
        Run tower = Run.after("size(1, 10)", "rule(0, 1)", "rule(2, 20)", "rule(3, 40)");
        tower.due("run(0, 0, 1, 1)", 8);
        tower.due("run(0, 1, 1, 1)", 16);
        tower.due("run(0, 2, 1, 1)", 24);
        tower.due("run(0, 9, 1, 6)", 8);
        tower.due("run(0, 8, 1, 6)", 16);
        tower.due("run(0, 7, 1, 6)", 24);
        tower.dueAll(0, "run(0, 0, 0, 6)", "run(0, 9, 0, 1)");
    }

    private static void runOfTheNextDepths() {
        Sentence.of(0, "RUN there of d - 1, and of d + 1 (as far as these are 0 to D), each with P more (0 to 20; 1 at first);");
        // of d + 1: with D 1 there is no depth 2 to come from, though it was there before
        Run run = threeDepths().then("rule(0, 2)");
        dueInRow(run, "run(1, 0, ?, 4)", 2, 2, 8);
        run.then("rule(0, 1)");
        dueInRow(run, "run(1, 0, ?, 4)", 0, 1);
        run.due("run(1, 0, 2, 4)", NUMBER);
        run.then("rule(0, 2)");
        dueInRow(run, "run(1, 0, ?, 4)", 2, 2, 8);
        run.then("rule(2, 0)");
        dueInRow(run, "run(1, 0, ?, 4)", 2, 1, 8);
        run.then("rule(0, 0)");
        run.due("run(1, 0, 0, 4)", 0);
        // of d - 1: depth 0 costs nothing, so depth 1 has at most P more than 8
        Run tower = Run.after("size(1, 10)", "rule(0, 1)", "rule(3, 40)");
        tower.due("run(0, 9, 1, 1)", 8 + 1);
        tower.edges("rule(2, ?)", 0, 1, 20, 0, NUMBER);
        dueRows(tower, 1, 8, 16, 24, 28, 28);
        tower.due("rule(2, 19)", 20);
        dueRows(tower, 1, 8, 16, 24, 27, 27);
        tower.due("rule(2, 0)", 19);
        dueRows(tower, 1, 8, 8, 8);
        // one depth farther P is there twice, row by row
        Run two = Run.after("size(1, 10)", "rule(0, 2)", "rule(2, 2)", "rule(3, 40)");
        dueRows(two, 1, 8, 10, 10, 10);
        dueRows(two, 2, 8, 16, 20, 20);
    }

    private static void runOfAnyDepth() {
        Sentence.of(0, "M with Q more (0 to 40; 3 at first).");
        Run tower = Run.after("size(1, 10)", "rule(0, 2)", "rule(2, 20)");
        dueRows(tower, 1, 8, 11, 11);
        dueRows(tower, 2, 8, 11, 11);
        tower.edges("rule(3, ?)", 0, 3, 40, 0, NUMBER);
        dueRows(tower, 1, 8, 16, 24, 28, 28, 28, 28, 28);
        dueRows(tower, 2, 8, 16, 24, 32, 40, 48, 48, 48);
        tower.due("rule(3, 39)", 40);
        dueRows(tower, 2, 8, 16, 24, 32, 40, 47, 47, 47);
        tower.due("rule(3, 0)", 39);
        dueRows(tower, 2, 8, 8, 8);
    }

    /** RUNS along way 1, from above, at column 0. */
    private static void dueRows(Run run, int d, int... want) {
        for (int y = 0; y < want.length; y++) {
            run.due("run(0, " + y + ", " + d + ", 1)", want[y]);
        }
    }

    private static void sumOfEight() {
        Sentence.of(0, "SUM of (x, y, d): the eight RUNS together.");
        Run one = Run.fresh();
        one.due("sum(0, 0, 0)", 0);
        one.dueAll(8 * 8, "sum(0, 0, 1)", "sum(0, 0, 4)");
        one.then("lose(0, 0, 0)");
        one.due("sum(0, 0, 1)", 0);
        // the votes against depth 1 are those of column 0: 1 more by the three ways that come from there
        Run run = Run.after("size(3, 3)", "rule(0, 1)");
        run.due("sum(1, 1, 1)", 3);
        run.due("sum(1, 0, 1)", 2);
        run.due("sum(1, 1, 0)", 0);
        run.due("sum(0, 1, 1)", 8 * 8 + 2);
        run.due("sum(0, 0, 1)", 8 * 8 + 1);
    }

    private static void leftDepth() {
        Sentence.of(0, "LEFT DEPTH of a SQUARE (x, y): the d for which SUM of (x, y, d) is least, of several the least d.");
        for (int d = 0; d <= 8; d++) {
            Run run = farPair(d);
            run.due("sum(" + d + ", 0, " + d + ")", 0);
            run.due("depth(0, " + d + ", 0)", d);
            run.due("depth(0, " + (d + 1) + ", 0)", d);
        }
        // all that is left with D 7 costs the same
        Run near = farPair(8).then("rule(0, 7)");
        near.dueAll(8, "sum(8, 0, 0)", "sum(8, 0, 7)");
        near.due("depth(0, 8, 0)", 0);
        Run plain = widest();
        plain.dueAll(0, "depth(0, 0, 0)", "depth(0, 19, 9)");
        plain.then("row(0, 9, true)");
        plain.due("depth(0, 19, 9)", 0);
        // VOTES alone count where Q is 0: these are 1, 0, 1 by depths 0, 1, 2, then 1, 0, 0, 1, 1, 0 and 1, 1, 1
        Run tie = rowOf(new int[] {LOST, LOST, 9, 5}, new int[] {9, 9, 5, 5}).then("rule(0, 2)", "rule(3, 0)");
        tie.dueAll(8, "sum(2, 0, 0)", "sum(2, 0, 2)");
        tie.due("sum(2, 0, 1)", 0);
        tie.due("depth(0, 2, 0)", 1);
        tie.then("shade(1, 1, 0, 7)");
        tie.dueAll(0, "sum(2, 0, 1)", "sum(2, 0, 2)");
        tie.due("depth(0, 2, 0)", 1);
        tie.then("shade(1, 1, 0, 5)");
        tie.dueAll(8, "sum(2, 0, 0)", "sum(2, 0, 1)");
        tie.due("sum(2, 0, 2)", 0);
        tie.due("depth(0, 2, 0)", 2);
        tie.then("shade(1, 0, 0, 5)");
        tie.dueAll(8, "sum(2, 0, 0)", "sum(2, 0, 1)", "sum(2, 0, 2)");
        tie.due("depth(0, 2, 0)", 0);
    }

    private static void rightDepth() {
        Sentence.of(0, "RIGHT DEPTH of (x, y): the d for which SUM of (x + d, y, d) is least, of those for which x + d is in the PICTURE, of several the least d.");
        for (int d = 0; d <= 8; d++) {
            Run run = farPair(d);
            run.due("depth(1, 0, 0)", d);
            run.due("depth(1, 1, 0)", d);
            // the last column has depth 0 alone
            run.due("depth(1, " + (d + 1) + ", 0)", 0);
        }
        // column 2 + 8 is none; of the others several have the least SUM, 2
        Run far = farPair(8);
        far.dueAll(2, "sum(2, 0, 0)", "sum(3, 0, 1)", "sum(7, 0, 5)");
        far.due("depth(1, 2, 0)", 0);
        // where every SUM of those is 0 the least depth stays
        Run plain = widest().then("row(0, 9, true)");
        plain.dueAll(0, "depth(1, 0, 0)", "depth(1, 19, 0)", "depth(1, 0, 9)", "depth(1, 19, 9)");
        // a lesser depth that costs something: Q is 0, so VOTES alone count
        Run meet = meeting();
        meet.due("sum(0, 0, 0)", 8);
        meet.due("sum(1, 0, 1)", 8);
        meet.due("sum(2, 0, 2)", 0);
        dueInRow(meet, "depth(1, ?, 0)", 2, 0, 1, 0);
    }

    /** VOTES alone count, Q being 0: the left (1, 0) has depth 0 and (2, 0) depth 2, both told. */
    private static Run meeting() {
        return rowOf(new int[] {4, 4, 5, 1}, new int[] {9, 5, 5, 5}).then("rule(0, 2)", "rule(3, 0)");
    }

    private static void toldDepth() {
        Sentence.of(0, "TOLD DEPTH of a left SQUARE (x, y), its LEFT DEPTH being d: d, if it isn't LOST, x - d is in the PICTURE, the right SQUARE there isn't LOST, and has the RIGHT DEPTH d.");
        for (int d = 0; d <= 8; d++) {
            Run run = farPair(d);
            run.due("agreed(" + d + ", 0)", d);
            run.due("agreed(" + (d + 1) + ", 0)", d);
        }
        dueInRow(meeting(), "agreed(?, 0)", -14, 0, 2, 0);
    }

    private static void why() {
        Sentence.of(0, "Else none, WHY being the first of: 1 it is LOST, 2 x - d isn't in the PICTURE, 3 the right SQUARE is LOST, 4 its RIGHT DEPTH is another one.");
        Run small = smallRow();
        dueInRow(small, "agreed(?, 0)", -14, 1, 1);
        // 3 before 4: the right one is LOST, and its RIGHT DEPTH is 0, not 1
        small.then("lose(1, 0, 0)");
        small.due("depth(0, 1, 0)", 1);
        small.due("depth(1, 0, 0)", 0);
        small.due("agreed(1, 0)", -13);
        // 1 before 3 and 4
        small.then("lose(0, 1, 0)");
        small.due("agreed(1, 0)", -11);
        small.then("shade(0, 1, 0, 5)", "row(0, 0, true)");
        dueInRow(small, "agreed(?, 0)", -11, -11, -11);
        Run blind = farPair(8).then("row(1, 0, true)");
        blind.due("agreed(7, 0)", -11);
        blind.dueAll(-13, "agreed(8, 0)", "agreed(9, 0)");
        Run outside = stripes();
        outside.due("sum(0, 3, 0)", 72);
        outside.due("sum(0, 3, 1)", 64);
        outside.due("depth(0, 0, 3)", 1);
        outside.due("agreed(0, 3)", -12);
        outside.due("agreed(1, 3)", 1);
        // 1 before 2
        outside.due("depth(0, 0, 2)", 1);
        outside.due("agreed(0, 2)", -11);
    }

    /**
     * Stripes, by one column apart in both PICTURES, and a change of depth is dear: so (0, 3) has depth 1 like
     * all beside it, though column -1 is none. What is LOST above and below it doesn't vote against that.
     * Depth 0 costs it 8 times 3, and 20, 14, 14 by the ways from the right.
     */
    private static Run stripes() {
        int[][] left = new int[7][8];
        int[][] right = new int[7][8];
        for (int y = 0; y < 7; y++) {
            for (int x = 0; x < 8; x++) {
                left[y][x] = x == 0 && y != 3 ? LOST : x % 2 * 100;
                right[y][x] = (x + 1) % 2 * 100;
            }
        }
        return pictures(left, right).then("rule(0, 1)", "rule(2, 20)", "rule(3, 40)");
    }

    // ---- promises

    private static void runPromise() {
        Sentence.of(14, "RUN of (x, y, d) along the WAY from NEIGHBOUR k.");
        Run run = smallRow();
        dueInRow(run, "run(?, 0, 0, 3)", 1, 2, 2);
        dueInRow(run, "run(?, 0, 1, 3)", 8, 1, 0);
        dueInRow(run, "run(?, 0, 0, 4)", 2, 3, 1);
        dueInRow(run, "run(?, 0, 1, 4)", 8, 0, 0);
    }

    private static void runNumber() {
        Sentence.of(14, "NUMBER: there is no such SQUARE, d isn't 0 to D, or k not 0 to 7.");
        squares("run(X, Y, 0, 0)", 0, NUMBER);
        squares("run(X, Y, 0, 7)", 0, NUMBER);
        plain().edges("run(2, 1, ?, 1)", 0, 0, 2, 0, NUMBER);
        plain().edges("run(2, 1, 0, ?)", 0, 0, 7, 0, NUMBER);
        widest().edges("run(19, 9, ?, 4)", 0, 0, 8, 0, NUMBER);
        Run.after("rule(0, 0)").edges("run(0, 0, ?, 0)", 0, 0, 0, 0, NUMBER);
        full().dueAll(NUMBER, "run(3, 2, 3, 8)", "run(-1, -1, -1, -1)", "run(0, 0, 3, 8)", "run(2, 0, 3, 0)");
    }

    private static void sumPromise() {
        Sentence.of(15, "SUM of (x, y, d).");
        Run run = smallRow();
        dueInRow(run, "sum(?, 0, 0)", 9, 17, 9);
        dueInRow(run, "sum(?, 0, 1)", 64, 1, 0);
    }

    private static void sumNumber() {
        Sentence.of(15, "NUMBER: there is no such SQUARE, or d isn't 0 to D.");
        squares("sum(X, Y, 0)", 0, NUMBER);
        Run.fresh().edges("sum(0, 0, ?)", 0, 0, 4, 64, NUMBER);
        Run.after("rule(0, 8)").edges("sum(0, 0, ?)", 0, 0, 8, 64, NUMBER);
        Run.after("rule(0, 0)").edges("sum(0, 0, ?)", 0, 0, 0, 0, NUMBER);
        full().dueAll(NUMBER, "sum(3, 0, 0)", "sum(0, 2, 0)", "sum(0, 1, 3)", "sum(0, 1, -1)");
    }

    private static void depthPromise() {
        Sentence.of(16, "LEFT DEPTH (picture 0) or RIGHT DEPTH (1) of a SQUARE.");
        Run run = smallRow();
        dueInRow(run, "depth(0, ?, 0)", 0, 1, 1);
        dueInRow(run, "depth(1, ?, 0)", 1, 1, 0);
        // a LOST one has both, too
        run.then("row(0, 0, true)", "row(1, 0, true)");
        dueInRow(run, "depth(0, ?, 0)", 0, 0, 0);
        dueInRow(run, "depth(1, ?, 0)", 0, 0, 0);
        farPair(8).due("depth(0, 8, 0)", 8);
        farPair(8).due("depth(1, 0, 0)", 8);
    }

    private static void depthNumber() {
        Sentence.of(16, "NUMBER: there is no such PICTURE, or SQUARE.");
        squares("depth(0, X, Y)", 0, NUMBER);
        squares("depth(1, X, Y)", 0, NUMBER);
        plain().edges("depth(?, 2, 1)", 0, 0, 1, 0, NUMBER);
        Run.fresh().edges("depth(?, 0, 0)", 0, 0, 1, 0, NUMBER);
        full().dueAll(NUMBER, "depth(2, 0, 1)", "depth(0, 3, 1)", "depth(1, 0, 2)", "depth(-1, 3, 2)");
    }

    private static void agreedPromise() {
        Sentence.of(17, "TOLD DEPTH of a left SQUARE; less 10 less WHY if it has none (-11 to -14).");
        Run run = smallRow();
        dueInRow(run, "agreed(?, 0)", -14, 1, 1);
        run.then("lose(1, 0, 0)");
        run.due("agreed(1, 0)", -13);
        stripes().due("agreed(0, 3)", -12);
        run.then("lose(0, 1, 0)");
        run.due("agreed(1, 0)", -11);
        Run.fresh().due("agreed(0, 0)", 0);
        farPair(8).due("agreed(8, 0)", 8);
    }

    private static void agreedNumber() {
        Sentence.of(17, "NUMBER: there is no such SQUARE.");
        squares("agreed(X, Y)", 0, NUMBER);
        full().dueAll(NUMBER, "agreed(3, 1)", "agreed(-1, 1)", "agreed(0, 2)", "agreed(2, -1)");
    }
}
