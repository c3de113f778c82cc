/** The terms of segments and planes, and the promises 18 to 20. */
final class SegmentSentences extends Sentences {
    private SegmentSentences() {
    }

    static void all() {
        hangTogether();
        anchor();
        planeRanges();
        wholePart();
        planeCosts();
        planeLeast();
        planeOfSeveral();
        segmentPromise();
        segmentNumber();
        segmentLost();
        extentPromise();
        extentRefusals();
        planePromise();
        planeNumber();
        planeLost();
    }

    // ---- terms

    private static void hangTogether() {
        Sentence.of(0, "SEGMENTS of the left PICTURE: SQUARES that aren't LOST hang together if they are beside, above or below each other, and their SHADES differ by at most T (0 to 255; 10 at first), and over others.");
        int[][] pairs = {{0, 10, 1}, {0, 11, 2}, {11, 0, 2}, {10, 0, 1}, {245, 255, 1}, {244, 255, 2}, {7, 7, 1}};
        for (int[] pair : pairs) {
            Run beside = rowOf(new int[] {pair[0], pair[1]}, new int[2]);
            beside.due("many(5)", pair[2]);
            Run below = pictures(new int[][] {{pair[0]}, {pair[1]}}, new int[2][1]);
            below.due("many(5)", pair[2]);
        }
        Run rule = rowOf(new int[] {0, 255, 255, 254}, new int[4]);
        rule.due("many(5)", 2);
        rule.edges("rule(4, ?)", 0, 10, 255, 0, NUMBER);
        rule.due("many(5)", 1);
        rule.due("rule(4, 254)", 255);
        rule.due("many(5)", 2);
        rule.due("rule(4, 0)", 254);
        rule.due("many(5)", 3);
        rule.due("rule(4, 1)", 0);
        rule.due("many(5)", 2);
        // not across a corner, nor from the end of a row to the next one
        Run corner = pictures(new int[][] {{5, LOST}, {LOST, 5}}, new int[2][2]);
        corner.due("many(5)", 2);
        Run wrapped = pictures(new int[][] {{LOST, 5}, {5, LOST}}, new int[2][2]);
        wrapped.due("many(5)", 2);
        wrapped.due("segment(0, 1)", 2);
        // over others, the ends being far apart
        Run steps = rowOf(new int[] {0, 10, 20, 30, 40, 50}, new int[6]);
        steps.due("many(5)", 1);
        steps.then("lose(0, 2, 0)");
        dueInRow(steps, "segment(?, 0)", 0, 0, LOST, 3, 3, 3);
        // the right PICTURE has none
        Run right = rowOf(new int[3], new int[] {0, 100, LOST});
        right.due("many(5)", 1);
    }

    private static void anchor() {
        Sentence.of(0, "A SEGMENT is told by its least PLACE, its ANCHOR (x0, y0).");
        Run hook = pictures(new int[][] {{200, 200, 0}, {0, 200, 0}, {0, 0, 0}}, new int[3][3]);
        dueInRow(hook, "segment(?, 0)", 0, 0, 2);
        dueInRow(hook, "segment(?, 1)", 2, 0, 2);
        dueInRow(hook, "segment(?, 2)", 2, 2, 2);
        // two that meet only in the last row have one ANCHOR
        Run comb = pictures(new int[][] {{0, 99, 0, 99, 0}, {0, 0, 0, 99, 0}, {99, 99, 0, 0, 0}}, new int[3][5]);
        dueInRow(comb, "segment(?, 0)", 0, 1, 0, 3, 0);
        dueInRow(comb, "segment(?, 1)", 0, 0, 0, 3, 0);
        dueInRow(comb, "segment(?, 2)", 10, 10, 0, 0, 0);
        Run last = widest().then("shade(0, 19, 9, 99)");
        last.due("segment(19, 9)", 199);
        last.due("segment(18, 9)", 0);
    }

    /**
     * The left SQUARES of column 3, of SHADE 0 like all, are the only ones that aren't LOST; of each right row
     * just one isn't, the one that is so far before column 3 (or none, for -1).
     */
    private static Run tower(int... depths) {
        return towerBelow(0, depths);
    }

    /** The same below some rows in which all left SQUARES are LOST. */
    private static Run towerBelow(int rows, int... depths) {
        int[][] left = new int[rows + depths.length][4];
        int[][] right = new int[rows + depths.length][4];
        for (int y = 0; y < left.length; y++) {
            int depth = y < rows ? -1 : depths[y - rows];
            for (int x = 0; x < 4; x++) {
                left[y][x] = y >= rows && x == 3 ? 0 : LOST;
                right[y][x] = depth >= 0 && x == 3 - depth ? 0 : LOST;
            }
        }
        return pictures(left, right);
    }

    private static void planeRanges() {
        Sentence.of(0, "A PLANE (b, a, c), b being 0 to D, a and c -2 to 2,");
        // b, the last ones that are allowed
        duePlane(tower(0).then("rule(0, 0)"), 3, 0, 0, 0, 0, 0, 0);
        duePlane(tower(3).then("rule(0, 3)"), 3, 0, 3, 0, 0, 0, 3);
        duePlane(tower(3).then("rule(0, 2)"), 3, 0, 0, 0, 0, 9, 0);
        duePlane(farPair(8).then("rule(4, 0)"), 8, 0, 8, 0, 0, 0, 8);
        duePlane(farPair(8).then("rule(4, 0)", "rule(0, 7)"), 8, 0, 0, 0, 0, 1, 0);
        // b -1 with c 2 would leave row 0 alone to cost 9
        duePlane(tower(-1, 0, 1, 2), 3, 0, 0, 0, 3, 18, 0);
        // so would b 3 with c -2, which is one of D 3 but none of D 2
        duePlane(tower(-1, 2, 1, 0).then("rule(0, 2)"), 3, 3, 2, 0, 1, 18, 0);
        duePlane(tower(-1, 2, 1, 0).then("rule(0, 3)"), 3, 3, 3, 0, 0, 9, 0);
        // c: 2 and -2 cost nothing; 3 and -3 would where these cost 9
        duePlane(tower(0, 1, 2), 3, 2, 0, 0, 4, 0, 2);
        duePlane(tower(2, 1, 0), 3, 0, 2, 0, 0, 0, 2);
        duePlane(tower(0, 1, 3), 3, 2, 0, 0, 4, 9, 2);
        duePlane(tower(3, 1, 0), 3, 0, 2, 0, 0, 9, 2);
        // a: 2 and -2
        duePlane(rowOf(new int[3], new int[] {0, LOST, LOST}), 2, 0, 0, 4, 0, 0, 2);
        duePlane(rowOf(new int[] {LOST, LOST, 9, 5, 9, LOST, LOST}, new int[] {9, 5, 5, 5, 9, 9, 9}), 4, 0, 2, 0, 0, 0, 0);
        // 3 would cost nothing, with b 0
        duePlane(rowOf(new int[] {LOST, 5, 9, 5}, new int[] {5, 9, LOST, LOST}), 3, 0, 0, 4, 0, 1, 2);
        // -3 would cost nothing, with b 3
        duePlane(rowOf(new int[] {LOST, LOST, LOST, 9, 5, 9}, new int[] {9, 5, 5, 5, 5, 9}), 5, 0, 0, 2, 0, 1, 0);
    }

    private static void wholePart() {
        Sentence.of(0, "has at (x, y) the depth b and the whole part (towards below) of (a (x - x0) + c (y - y0)) by 2.");
        // half of -1 is -1, so that a = -1 would cost 9
        duePlane(Run.after("size(2, 1)"), 1, 0, 0, 2, 0, 0, 0);
        duePlane(Run.after("size(1, 2)"), 0, 1, 0, 0, 2, 0, 0);
        // 1, 0, 0 by b 1 and a -1; 1, 0, 0 by b 1 and c -1
        Run row = rowOf(new int[] {LOST, 0, 0, 0}, new int[] {0, LOST, 0, 0}).then("rule(0, 1)");
        duePlane(row, 1, 0, 1, 1, 0, 0, 1);
        row.dueAll(0, "plane(2, 0, 4)", "plane(3, 0, 4)");
        Run column = tower(1, 0, 0).then("rule(0, 1)");
        duePlane(column, 3, 0, 1, 0, 1, 0, 1);
        column.dueAll(0, "plane(3, 1, 4)", "plane(3, 2, 4)");
        // 0, 0, 1, 1, 2 by a 1
        Run slow = rowOf(new int[5], new int[] {0, 0, 0, LOST, LOST}).then("rule(0, 2)");
        duePlane(slow, 4, 0, 0, 3, 0, 0, 2);
        slow.due("plane(1, 0, 4)", 0);
        slow.dueAll(1, "plane(2, 0, 4)", "plane(3, 0, 4)");
        // both together are halved at once: by a 1 and c 1 only (2, 1) has depth 1
        Run both = pictures(new int[][] {{LOST, 0, 0}, {LOST, 0, 0}}, new int[][] {{LOST, 0, 0}, {LOST, 0, LOST}});
        duePlane(both, 2, 1, 0, 3, 3, 0, 1);
        both.dueAll(0, "plane(1, 0, 4)", "plane(2, 0, 4)", "plane(1, 1, 4)");
        // from the ANCHOR on, be it in the last rows
        Run low = towerBelow(3, 0, 1, 2);
        duePlane(low, 3, 5, 0, 0, 4, 0, 2);
        low.due("plane(3, 4, 4)", 1);
        low.due("plane(3, 3, 4)", 0);
        duePlane(towerBelow(7, 2, 1, 0), 3, 7, 2, 0, 0, 0, 2);
        Run last = widest().then("shade(0, 18, 9, 99)", "shade(0, 19, 9, 99)", "row(1, 9, true)");
        duePlane(last, 19, 9, 0, 0, 0, 18, -101);
        last.due("plane(18, 9, 4)", 0);
    }

    private static void planeCosts() {
        Sentence.of(0, "It COSTS, for each SQUARE of the SEGMENT: COST there, or 9 if its depth isn't 0 to D, or there is no COST.");
        // no COST: LOST, or not in the PICTURE
        duePlane(Run.after("lose(1, 0, 0)"), 0, 0, 0, 0, 0, 9, 0);
        duePlane(tower(-1, -1, -1), 3, 0, 0, 0, 0, 27, 0);
        // -1 isn't 0 to D, which is as dear as no COST, so that the least a stays
        Run below = Run.after("size(2, 1)", "lose(1, 1, 0)", "rule(0, 0)");
        duePlane(below, 1, 0, 0, 0, 0, 9, -101);
        // 1 isn't 0 to D, D being 0, though it has a COST where it is
        Run above = pictures(new int[][] {{LOST, 0}, {LOST, 0}}, new int[][] {{LOST, 0}, {0, LOST}}).then("rule(0, 0)");
        duePlane(above, 1, 1, 0, 0, 0, 9, -101);
        above.then("rule(0, 1)");
        duePlane(above, 1, 1, 0, 0, 4, 0, 1);
        // nor is -1 so where all around it has a COST by each depth
        int[] two = new int[20];
        for (int x = 0; x < 20; x++) {
            two[x] = x == 10 || x == 11 ? 0 : LOST;
        }
        for (int deep = 0; deep <= 8; deep++) {
            duePlane(rowOf(two, new int[20]).then("rule(0, " + deep + ")"), 11, 0, 0, 2, 0, 0, 0);
        }
        // COST of each
        Run costs = smallRow().then("rule(0, 0)", "rule(4, 255)");
        costs.due("plane(0, 0, 3)", 1 + 2 + 1);
        costs.then("rule(4, 0)");
        dueInRow(costs, "plane(?, 0, 3)", 1, 2, 1);
        Run most = Run.after("size(20, 10)");
        for (int y = 0; y < 10; y++) {
            most.then("row(1, " + y + ", true)");
        }
        most.due("plane(19, 9, 3)", 200 * 9);
    }

    private static void planeLeast() {
        Sentence.of(0, "THE PLANE: that which costs least;");
        // 1 + 2 + 1 by depth 0; 9 + 0 + 0 by depth 1; 1 + 2 + 0 by 0, 0, 1
        duePlane(smallRow().then("rule(4, 255)"), 2, 0, 0, 3, 0, 3, 1);
        // a greater b, or c, that costs less
        duePlane(tower(1, 0), 3, 0, 1, 0, 0, 0, 1);
        duePlane(tower(3, 3), 3, 1, 3, 0, 2, 0, 3);
    }

    private static void planeOfSeveral() {
        Sentence.of(0, "of several the least b, then a, then c.");
        // one SQUARE: a and c don't matter, b is the least one of those that have a COST
        duePlane(Run.fresh(), 0, 0, 0, 0, 0, 0, 0);
        duePlane(rowOf(new int[] {LOST, LOST, 0}, new int[] {0, 0, LOST}), 2, 0, 1, 0, 0, 0, 1);
        // none has a COST: all cost the same
        Run blind = plain().then("row(1, 0, true)", "row(1, 1, true)");
        duePlane(blind, 0, 0, 0, 0, 0, 54, 0);
        // in one row c doesn't matter, in one column a doesn't
        duePlane(plain().then("row(0, 1, true)"), 0, 0, 0, 2, 0, 0, 0);
        duePlane(Run.after("size(1, 3)"), 0, 0, 0, 0, 2, 0, 0);
        // b before a: 0 with a 2 costs nothing, as does 1 with a 0
        duePlane(rowOf(new int[] {LOST, 0, 0}, new int[] {0, 0, LOST}), 2, 0, 0, 4, 0, 0, 1);
        // a before c: 0 with c 2 costs nothing, as does 1 with c 1, and 2 with c 0
        Run hook = pictures(new int[][] {{LOST, LOST, 0, LOST}, {LOST, LOST, 0, 0}},
            new int[][] {{LOST, LOST, 0, LOST}, {LOST, 0, 0, LOST}});
        duePlane(hook, 3, 1, 0, 2, 4, 0, 1);
    }

    // ---- promises

    private static void segmentPromise() {
        Sentence.of(18, "The ANCHOR's PLACE of the SEGMENT of a left SQUARE.");
        Run run = pictures(new int[][] {{0, 50, 50}, {0, 100, 50}}, new int[2][3]);
        dueInRow(run, "segment(?, 0)", 0, 1, 1);
        dueInRow(run, "segment(?, 1)", 0, 4, 1);
        Run.fresh().due("segment(0, 0)", 0);
    }

    private static void segmentNumber() {
        Sentence.of(18, "NUMBER: there is no such SQUARE;");
        squares("segment(X, Y)", 0, NUMBER);
        full().dueAll(NUMBER, "segment(3, 0)", "segment(3, 1)", "segment(-1, 1)", "segment(0, 2)", "segment(0, -1)");
    }

    private static void segmentLost() {
        Sentence.of(18, "LOST: it is.");
        Run run = full();
        run.dueAll(LOST, "segment(2, 0)", "segment(0, 1)", "segment(1, 1)", "segment(2, 1)");
        run.due("segment(0, 0)", 0);
        run.then("row(0, 1, false)");
        run.due("segment(1, 1)", LOST);
        // that the right one is doesn't matter
        run.then("row(1, 0, true)");
        run.due("segment(0, 0)", 0);
    }

    private static void extentPromise() {
        Sentence.of(19, "How many SQUARES that has.");
        widest().due("extent(19, 9)", 200);
        Run.fresh().due("extent(0, 0)", 1);
        Run run = pictures(new int[][] {{0, 50, 50}, {0, 100, 50}}, new int[2][3]);
        dueInRow(run, "extent(?, 0)", 2, 3, 3);
        dueInRow(run, "extent(?, 1)", 2, 1, 3);
    }

    private static void extentRefusals() {
        Sentence.of(19, "NUMBER, LOST likewise.");
        Run.fresh().edges("extent(?, 0)", 0, 1, 0, 1, NUMBER);
        Run.fresh().edges("extent(0, ?)", 0, 1, 0, 1, NUMBER);
        plain().edges("extent(?, 1)", 0, 6, 2, 6, NUMBER);
        plain().edges("extent(2, ?)", 0, 6, 1, 6, NUMBER);
        widest().edges("extent(?, 9)", 0, 200, 19, 200, NUMBER);
        widest().edges("extent(19, ?)", 0, 200, 9, 200, NUMBER);
        Run run = full();
        run.dueAll(NUMBER, "extent(3, 0)", "extent(3, 1)", "extent(-1, 1)", "extent(0, 2)");
        run.dueAll(LOST, "extent(2, 0)", "extent(0, 1)", "extent(1, 1)", "extent(2, 1)");
    }

    private static void planePromise() {
        Sentence.of(20, "Of THE PLANE of the SEGMENT of a left SQUARE: what = 0 b, 1 a and 2 more, 2 c and 2 more, 3 what it costs, 4 its depth at this SQUARE (-100 and it, if it isn't 0 to D).");
        duePlane(farPair(8).then("rule(4, 0)"), 8, 0, 8, 0, 0, 0, 8);
        duePlane(tower(0, 1, 2), 3, 2, 0, 0, 4, 0, 2);
        duePlane(rowOf(new int[3], new int[] {0, LOST, LOST}), 2, 0, 0, 4, 0, 0, 2);
        // all that can be matched is none, so it is (0, -2, -2): the depth falls by 1 with each column and row
        Run blind = Run.after("size(20, 10)");
        for (int y = 0; y < 10; y++) {
            blind.then("row(1, " + y + ", true)");
        }
        blind.due("plane(0, 0, 4)", 0);
        blind.dueAll(-101, "plane(1, 0, 4)", "plane(0, 1, 4)");
        blind.due("plane(19, 9, 4)", -128);
        // above D: left of the ANCHOR it rises, so that one column left of it the depth is 1
        Run hooked = pictures(new int[][] {{200, 200, 0}, {0, 0, 0}}, new int[2][3])
            .then("row(1, 0, true)", "row(1, 1, true)", "rule(0, 0)");
        hooked.due("plane(2, 0, 4)", 0);
        hooked.due("plane(2, 1, 4)", -101);
        hooked.due("plane(1, 1, 4)", 0);
        hooked.due("plane(0, 1, 4)", -99);
        hooked.then("rule(0, 1)");
        hooked.due("plane(0, 1, 4)", 1);
    }

    private static void planeNumber() {
        Sentence.of(20, "NUMBER is answered as -1000: there is no such SQUARE, another what;");
        squares("plane(X, Y, 0)", 0, -1000);
        squares("plane(X, Y, 3)", 0, -1000);
        plain().edges("plane(2, 1, ?)", 0, 0, 4, 0, -1000);
        Run.fresh().edges("plane(0, 0, ?)", 0, 0, 4, 0, -1000);
        full().dueAll(-1000, "plane(0, 1, 5)", "plane(0, 1, -1)", "plane(2, 0, 5)", "plane(3, 1, 0)", "plane(0, 2, 5)");
    }

    private static void planeLost() {
        Sentence.of(20, "LOST as -1001: it is.");
        Run run = full();
        for (int what = 0; what <= 4; what++) {
            run.dueAll(-1001, "plane(2, 0, " + what + ")", "plane(0, 1, " + what + ")");
        }
        run.due("plane(0, 0, 0)", 0);
        run.then("row(0, 1, false)");
        run.due("plane(1, 1, 0)", -1001);
        // that the right one is doesn't matter
        run.then("row(1, 0, true)");
        run.due("plane(0, 0, 0)", 0);
    }

    /** What 0, 1, 2 .. are of THE PLANE. */
    private static void duePlane(Run run, int x, int y, int... want) {
        for (int what = 0; what < want.length; what++) {
            run.due("plane(" + x + ", " + y + ", " + what + ")", want[what]);
        }
    }
}
