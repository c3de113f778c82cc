import java.util.ArrayList;
import java.util.List;

/** What the tests of the sentences have in common: the constants' values and the scenes. */
abstract class Sentences {
    static final int NUMBER = -1;
    static final int MISSING = -2;
    static final int SIZE = -3;
    static final int NONE = -4;
    static final int LOST = -5;

    /**
     * 3 by 2 SQUARES; all that can be held is held, and unlike what a new object has, so that any change
     * is seen. Row 1 of the left PICTURE is MISSING, (2, 0) of the left and (1, 1) of the right are LOST.
     */
    static Run full() {
        return Run.after("size(3, 2)", "draw(0, 0, 3, 2, 1, 7)", "lose(0, 1, 1)", "row(1, 0, true)", "keep()",
            "row(1, 0, false)", "shade(0, 0, 0, 9)", "lose(0, 2, 0)", "lose(1, 1, 1)", "shade(1, 2, 1, 77)",
            "row(0, 1, true)", "rule(0, 2)", "rule(1, 5)", "rule(2, 2)", "rule(3, 4)", "rule(4, 20)",
            "outline(0, 1, 170)", "outline(1, 6, 60)", "outline(2, 3, 15)");
    }

    /** 3 by 2 SQUARES of SHADE 0, D being 2: every COST that is one is 0. (2, 1) has the TRUTH 2. */
    static Run plain() {
        return Run.after("size(3, 2)", "draw(0, 0, 3, 2, 1, 7)", "keep()", "size(3, 2)", "draw(2, 1, 1, 1, 2, 5)",
            "shade(0, 2, 1, 0)", "shade(1, 0, 1, 0)", "rule(0, 2)", "outline(0, 1, 170)");
    }

    /** The greatest PICTURES, all of SHADE 0, D being 8. */
    static Run widest() {
        return Run.after("size(20, 10)", "keep()", "rule(0, 8)", "outline(2, 6, 3)");
    }

    /** Both PICTURES from rows of SHADES, an LOST one being LOST. */
    static Run pictures(int[][] left, int[][] right) {
        Run run = Run.after("size(" + left[0].length + ", " + left.length + ")");
        for (int y = 0; y < left.length; y++) {
            fill(run, 0, y, left[y]);
            fill(run, 1, y, right[y]);
        }
        return run;
    }

    static Run rowOf(int[] left, int[] right) {
        return pictures(new int[][] {left}, new int[][] {right});
    }

    static void fill(Run run, int picture, int y, int... shades) {
        for (int x = 0; x < shades.length; x++) {
            String at = "(" + picture + ", " + x + ", " + y;
            if (shades[x] == LOST) {
                run.then("lose" + at + ")");
            } else if (shades[x] != 0) {
                run.then("shade" + at + ", " + shades[x] + ")");
            }
        }
    }

    /** By depth 0 its COSTS are 1, 2, 1; by depth 1 none, 0, 0; D is 1. */
    static Run smallRow() {
        return rowOf(new int[] {10, 5, 20}, new int[] {5, 20, 10}).then("rule(0, 1)");
    }

    /**
     * One row in which the last two left SQUARES are the only ones that aren't LOST, and d before the first
     * two right ones, D being d. VOTES of d are all 0, so its RUNS are; by each other depth both VOTE 1.
     * So both have the depth d, as have the first two right ones.
     */
    static Run farPair(int d) {
        int[] left = new int[d + 2];
        int[] right = new int[d + 2];
        for (int x = 0; x < d + 2; x++) {
            left[x] = x < d ? LOST : x == d ? 9 : 1;
            right[x] = x == 0 ? 9 : x;
        }
        return rowOf(left, right).then("rule(0, " + d + ")");
    }

    /** Columns and rows (X and Y of the call) at the edges of the least, of small and of the greatest PICTURES. */
    static void squares(String call, int want, int refusal) {
        for (int i = 0; i < 3; i++) {
            int right = new int[] {0, 2, 19}[i];
            int low = new int[] {0, 1, 9}[i];
            if (call.contains("X")) {
                sized(i).edges(call.replace("X", "?").replace("Y", "0"), 0, want, right, want, refusal);
                sized(i).edges(call.replace("X", "?").replace("Y", "" + low), 0, want, right, want, refusal);
            }
            sized(i).edges(call.replace("Y", "?").replace("X", "0"), 0, want, low, want, refusal);
            sized(i).edges(call.replace("Y", "?").replace("X", "" + right), 0, want, low, want, refusal);
        }
    }

    private static Run sized(int i) {
        return i == 0 ? Run.fresh() : i == 1 ? plain() : widest();
    }

    /** A call for each SQUARE, by rows. */
    static List<String> forEach(int width, int height, String call) {
        List<String> calls = new ArrayList<>();
        for (int y = 0; y < height; y++) {
            for (int x = 0; x < width; x++) {
                calls.add(call.replace("X", "" + x).replace("Y", "" + y));
            }
        }
        return calls;
    }

    /** The answers for the columns 0, 1, 2 .. (the ? of the call). */
    static void dueInRow(Run run, String call, int... want) {
        for (int x = 0; x < want.length; x++) {
            run.due(call.replace("?", "" + x), want[x]);
        }
    }
}
