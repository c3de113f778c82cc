/**
 * The promises 1 to 30 one by one: ordinary inputs, the edges the document names, each refusal, and
 * of several the first one named. The answers that are due were worked out by hand from the document,
 * but for viewWhereSeveralCome, which works them out from what agreed and told answer.
 */
public final class PromisesTest {
    private static final int NUMBER = -1;
    private static final int MISSING = -2;
    private static final int SIZE = -3;
    private static final int NONE = -4;
    private static final int LOST = -5;
    private static final int LOW = Integer.MIN_VALUE;
    private static final int HIGH = Integer.MAX_VALUE;

    private static int promise = 0;
    private static int asked = 0;
    private static int wrong = 0;

    public static void main(String[] args) {
        newObject();
        size();
        shade();
        lose();
        row();
        copy();
        copyRefusals();
        told();
        rule();
        many();
        cost();
        costOfEachNeighbour();
        path();
        matched();
        hidden();
        run();
        runOverLostSquares();
        sum();
        depth();
        agreed();
        segment();
        extent();
        plane();
        planeRefusals();
        view();
        viewWhereSeveralCome();
        holes();
        draw();
        drawRefusals();
        truth();
        score();
        outline();
        cube();
        empty();
        keep();
        back();
        System.out.println(wrong == 0 ? asked + " answers are as due" : wrong + " answers are not as due");
        if (wrong != 0) {
            System.exit(1);
        }
    }

    // ---- promise 1

    private static void newObject() {
        promise = 1;
        TwoEyes eyes = new TwoEyes();
        due("width", eyes.many(0), 1);
        due("height", eyes.many(1), 1);
        due("left square", eyes.told(0, 0, 0), 0);
        due("right square", eyes.told(1, 0, 0), 0);
        due("no second column", eyes.told(0, 1, 0), NUMBER);
        due("no second row", eyes.told(0, 0, 1), NUMBER);
        due("nothing lost on the left", eyes.many(2), 0);
        due("nothing lost on the right", eyes.many(3), 0);
        due("no truth", eyes.truth(0, 0), NONE);
        due("no truths", eyes.many(7), 0);
        due("nothing kept", eyes.back(), NONE);
        due("D", eyes.rule(0, 4), 4);
        due("H", eyes.rule(1, 3), 3);
        due("P", eyes.rule(2, 1), 1);
        due("Q", eyes.rule(3, 3), 3);
        due("T", eyes.rule(4, 10), 10);
        due("the whole body", eyes.many(6), 512);
        due("NUMBER", TwoEyes.NUMBER, NUMBER);
        due("MISSING", TwoEyes.MISSING, MISSING);
        due("SIZE", TwoEyes.SIZE, SIZE);
        due("NONE", TwoEyes.NONE, NONE);
        due("LOST", TwoEyes.LOST, LOST);
    }

    // ---- promise 2

    private static void size() {
        promise = 2;
        TwoEyes eyes = new TwoEyes();
        due("least", eyes.size(1, 1), 1);
        due("widest", eyes.size(20, 1), 20);
        due("highest", eyes.size(1, 10), 10);
        due("ordinary", eyes.size(3, 2), 6);
        due("last square", eyes.shade(0, 2, 1, 9), 1);
        int[][] refused = {{0, 1}, {21, 1}, {1, 0}, {1, 11}, {-1, 5}, {5, -1}, {LOW, 1}, {1, HIGH}, {HIGH, HIGH}};
        for (int[] r : refused) {
            due("refused " + r[0] + " " + r[1], eyes.size(r[0], r[1]), NUMBER);
        }
        due("a refusal leaves the width", eyes.many(0), 3);
        due("a refusal leaves the height", eyes.many(1), 2);
        due("a refusal leaves the shades", eyes.told(0, 2, 1), 9);
        eyes.draw(0, 0, 3, 2, 0, 1);
        eyes.lose(1, 1, 1);
        eyes.row(0, 0, true);
        eyes.rule(0, 2);
        eyes.outline(0, 0, 0);
        due("greatest", eyes.size(20, 10), 200);
        due("new left squares", sumOfShades(eyes, 0), 0);
        due("new right squares", sumOfShades(eyes, 1), 0);
        due("no row is missing", eyes.many(2), 0);
        due("no square is lost", eyes.many(3), 0);
        due("no truth", eyes.many(7), 0);
        due("the rules stay", eyes.rule(0, 4), 2);
        due("the body stays", eyes.many(6), 448);
        fill(eyes, 0, 0, 1, 2, 3);
        due("cost before: left and all below are dark", eyes.cost(1, 0, 0), 4);
        eyes.size(3, 1);
        due("cost after", eyes.cost(1, 0, 0), 0);
    }

    private static int sumOfShades(TwoEyes eyes, int picture) {
        int sum = 0;
        for (int y = 0; y < eyes.many(1); y++) {
            for (int x = 0; x < eyes.many(0); x++) {
                sum += eyes.told(picture, x, y);
            }
        }
        return sum;
    }

    // ---- promise 3

    private static void shade() {
        promise = 3;
        TwoEyes eyes = sized(3, 2);
        due("a left one", eyes.shade(0, 1, 0, 7), 1);
        due("it is so", eyes.told(0, 1, 0), 7);
        due("not the right one", eyes.told(1, 1, 0), 0);
        due("not the next", eyes.told(0, 2, 0), 0);
        due("not below", eyes.told(0, 1, 1), 0);
        eyes.shade(1, 2, 1, 255);
        due("greatest", eyes.told(1, 2, 1), 255);
        eyes.shade(1, 2, 1, 256);
        due("lowest byte of 256", eyes.told(1, 2, 1), 0);
        eyes.shade(1, 2, 1, -1);
        due("lowest byte of -1", eyes.told(1, 2, 1), 255);
        eyes.shade(1, 2, 1, LOW + 200);
        due("lowest byte, without sign", eyes.told(1, 2, 1), 200);
        eyes.lose(1, 2, 1);
        due("a lost one", eyes.shade(1, 2, 1, 5), 1);
        due("is lost no more", eyes.told(1, 2, 1), 5);
        due("picture below", eyes.shade(-1, 0, 0, 1), NUMBER);
        due("picture above", eyes.shade(2, 0, 0, 1), NUMBER);
        due("row below", eyes.shade(0, 0, -1, 1), NUMBER);
        due("row above", eyes.shade(0, 0, 2, 1), NUMBER);
        due("column below", eyes.shade(0, -1, 0, 1), NUMBER);
        due("column above", eyes.shade(0, 3, 0, 1), NUMBER);
        due("far column", eyes.shade(0, HIGH, 0, 1), NUMBER);
        due("a wrong column is not the next row", eyes.told(0, 0, 1), 0);
        eyes.row(0, 1, true);
        due("missing", eyes.shade(0, 0, 1, 1), MISSING);
        due("missing before the column", eyes.shade(0, 9, 1, 1), MISSING);
        due("the picture before missing", eyes.shade(2, 0, 1, 1), NUMBER);
        due("only of that picture", eyes.shade(1, 0, 1, 1), 1);
        eyes.row(0, 1, false);
        due("a refusal writes nothing", eyes.told(0, 0, 1), 0);
    }

    // ---- promise 4

    private static void lose() {
        promise = 4;
        TwoEyes eyes = sized(3, 2);
        due("new", eyes.lose(1, 2, 0), 1);
        due("it was", eyes.lose(1, 2, 0), 0);
        due("it is", eyes.told(1, 2, 0), LOST);
        due("not the left one", eyes.told(0, 2, 0), 0);
        due("count", eyes.many(3), 1);
        due("picture", eyes.lose(2, 0, 0), NUMBER);
        due("picture below", eyes.lose(-1, 0, 0), NUMBER);
        due("row", eyes.lose(0, 0, 2), NUMBER);
        due("row below", eyes.lose(0, 0, -1), NUMBER);
        due("column", eyes.lose(0, 3, 0), NUMBER);
        due("column below", eyes.lose(0, -1, 1), NUMBER);
        eyes.row(0, 1, true);
        due("missing", eyes.lose(0, 1, 1), MISSING);
        due("missing before the column", eyes.lose(0, -5, 1), MISSING);
        eyes.row(0, 1, false);
        due("a refusal loses nothing", eyes.many(2), 0);
        due("cost before", eyes.cost(0, 0, 0), 0);
        eyes.lose(0, 0, 0);
        due("cost after", eyes.cost(0, 0, 0), NONE);
    }

    // ---- promise 5

    private static void row() {
        promise = 5;
        TwoEyes eyes = sized(3, 2);
        eyes.shade(0, 0, 1, 77);
        eyes.lose(0, 1, 1);
        due("was not missing", eyes.row(0, 1, false), 0);
        due("is missing", eyes.row(0, 1, true), 1);
        due("is it already", eyes.row(0, 1, true), 0);
        due("its squares are lost", eyes.told(0, 0, 1), LOST);
        due("all of them", eyes.many(2), 3);
        due("of one picture", eyes.many(3), 0);
        due("comes back", eyes.row(0, 1, false), 1);
        due("with its shade", eyes.told(0, 0, 1), 77);
        due("with its lost one", eyes.told(0, 1, 1), LOST);
        due("and no other", eyes.many(2), 1);
        due("picture", eyes.row(2, 0, true), NUMBER);
        due("picture below", eyes.row(-1, 0, true), NUMBER);
        due("row", eyes.row(0, 2, true), NUMBER);
        due("row below", eyes.row(1, -1, true), NUMBER);
        due("a refusal changes nothing", eyes.many(2) + eyes.many(3), 1);
    }

    // ---- promise 6

    private static void copy() {
        promise = 6;
        TwoEyes eyes = sized(5, 2);
        fill(eyes, 0, 0, 1, 2, 3, 4, 5);
        eyes.lose(0, 2, 0);
        due("to the other picture", eyes.copy(0, 1, 0, 3, 1, 2, 1), 3);
        dueRow("what came", eyes, 1, 1, 0, 0, 2, LOST, 4);
        dueRow("what it came from", eyes, 0, 0, 1, 2, LOST, 4, 5);
        dueRow("another row", eyes, 1, 0, 0, 0, 0, 0, 0);
        eyes.lose(1, 2, 1);
        due("over a lost one", eyes.copy(0, 0, 0, 1, 1, 2, 1), 1);
        due("it is lost no more", eyes.told(1, 2, 1), 1);
        due("overlapping, to the right", eyes.copy(0, 0, 0, 4, 0, 1, 0), 4);
        dueRow("as they were before", eyes, 0, 0, 1, 1, 2, LOST, 4);
        due("overlapping, to the left", eyes.copy(0, 1, 0, 4, 0, 0, 0), 4);
        dueRow("as they were before, too", eyes, 0, 0, 1, 2, LOST, 4, 4);
        due("a whole row", eyes.copy(0, 0, 0, 5, 0, 0, 1), 5);
        dueRow("the whole row", eyes, 0, 1, 1, 2, LOST, 4, 4);
        due("nothing", eyes.copy(0, 0, 0, 0, 1, 0, 0), 0);
        due("nothing behind the last column", eyes.copy(0, 5, 1, 0, 1, 5, 1), 0);
        dueRow("nothing came", eyes, 1, 0, 0, 0, 0, 0, 0);
        // left 1 2 LOST above 1 2 LOST; right 0 0 0 above 0 0 1, then 1 2 LOST above 0 0 1
        due("cost before", eyes.cost(1, 0, 0), 2);
        eyes.copy(0, 0, 0, 5, 1, 0, 0);
        due("cost after", eyes.cost(1, 0, 0), 1);
    }

    private static void copyRefusals() {
        TwoEyes eyes = sized(5, 2);
        fill(eyes, 0, 0, 1, 2, 3, 4, 5);
        due("picture from", eyes.copy(2, 0, 0, 1, 1, 0, 0), NUMBER);
        due("picture to", eyes.copy(0, 0, 0, 1, -1, 0, 0), NUMBER);
        due("row from", eyes.copy(0, 0, 2, 1, 1, 0, 0), NUMBER);
        due("row from below", eyes.copy(0, 0, -1, 1, 1, 0, 0), NUMBER);
        due("row to", eyes.copy(0, 0, 0, 1, 1, 0, 2), NUMBER);
        due("row to below", eyes.copy(0, 0, 0, 1, 1, 0, -1), NUMBER);
        due("length", eyes.copy(0, 0, 0, -1, 1, 0, 0), SIZE);
        due("lowest length", eyes.copy(0, 0, 0, LOW, 1, 0, 0), SIZE);
        due("length before columns", eyes.copy(0, -1, 0, -1, 1, 9, 0), SIZE);
        due("column from below", eyes.copy(0, -1, 0, 2, 1, 0, 0), NUMBER);
        due("column to below", eyes.copy(0, 0, 0, 2, 1, -1, 0), NUMBER);
        due("column from above", eyes.copy(0, 3, 0, 3, 1, 0, 0), NUMBER);
        due("column to above", eyes.copy(0, 0, 0, 3, 1, 3, 0), NUMBER);
        due("longest", eyes.copy(0, 1, 0, HIGH, 1, 0, 0), NUMBER);
        due("farthest", eyes.copy(0, HIGH, 0, HIGH, 1, 0, 0), NUMBER);
        due("farthest to", eyes.copy(0, 0, 0, 1, 1, HIGH, 0), NUMBER);
        due("too long", eyes.copy(0, 0, 0, 6, 1, 0, 0), NUMBER);
        dueRow("nothing came", eyes, 1, 0, 0, 0, 0, 0, 0);
        eyes.row(1, 1, true);
        due("missing to", eyes.copy(0, 0, 0, 1, 1, 0, 1), MISSING);
        due("missing from", eyes.copy(1, 0, 1, 1, 0, 0, 0), MISSING);
        due("missing before length", eyes.copy(1, 0, 1, -1, 0, 0, 0), MISSING);
        due("picture before missing", eyes.copy(1, 0, 1, -1, 2, 0, 0), NUMBER);
        due("the other picture's row isn't", eyes.copy(0, 0, 1, 1, 0, 0, 0), 1);
    }

    // ---- promise 7

    private static void told() {
        promise = 7;
        TwoEyes eyes = sized(2, 2);
        fill(eyes, 0, 0, 1, 2);
        fill(eyes, 1, 1, 3, 4);
        due("left", eyes.told(0, 1, 0), 2);
        due("right", eyes.told(1, 0, 1), 3);
        due("picture", eyes.told(2, 0, 0), NUMBER);
        due("picture below", eyes.told(-1, 0, 0), NUMBER);
        due("column", eyes.told(0, 2, 0), NUMBER);
        due("column below", eyes.told(0, -1, 1), NUMBER);
        due("row", eyes.told(0, 0, 2), NUMBER);
        due("row below", eyes.told(0, 0, -1), NUMBER);
        eyes.lose(0, 1, 0);
        due("lost", eyes.told(0, 1, 0), LOST);
        eyes.row(1, 1, true);
        due("lost with its row", eyes.told(1, 0, 1), LOST);
        due("the column before that", eyes.told(1, 2, 1), NUMBER);
    }

    // ---- promise 8

    private static void rule() {
        promise = 8;
        TwoEyes eyes = new TwoEyes();
        int[] first = {4, 3, 1, 3, 10};
        int[] most = {8, 20, 20, 40, 255};
        for (int what = 0; what < 5; what++) {
            due("first " + what, eyes.rule(what, most[what]), first[what]);
            due("too great " + what, eyes.rule(what, most[what] + 1), NUMBER);
            due("greatest " + what, eyes.rule(what, 0), most[what]);
            due("below nought " + what, eyes.rule(what, -1), NUMBER);
            due("far " + what, eyes.rule(what, HIGH), NUMBER);
            due("least " + what, eyes.rule(what, first[what]), 0);
        }
        due("what below", eyes.rule(-1, 0), NUMBER);
        due("what above", eyes.rule(5, 0), NUMBER);
        due("what far", eyes.rule(LOW, 0), NUMBER);
        due("a depth that is none", eyes.cost(0, 0, 5), NUMBER);
        eyes.rule(0, 5);
        due("a depth that is one", eyes.cost(0, 0, 5), NONE);
    }

    // ---- promise 9

    private static void many() {
        promise = 9;
        TwoEyes eyes = smallRow();
        due("width", eyes.many(0), 3);
        due("height", eyes.many(1), 1);
        due("told depths", eyes.many(4), 2);
        due("segments", eyes.many(5), 2);
        eyes.rule(4, 4);
        due("more segments", eyes.many(5), 3);
        eyes.lose(0, 1, 0);
        due("lost ones are in none", eyes.many(5), 2);
        due("lost on the left", eyes.many(2), 1);
        due("lost on the right", eyes.many(3), 0);
        eyes.row(1, 0, true);
        due("lost by a row", eyes.many(3), 3);
        due("no told depths", eyes.many(4), 0);
        eyes.outline(1, 0, 1);
        due("cubes", eyes.many(6), 512 - 7 * 8);
        eyes.row(1, 0, false);
        due("no truths", eyes.many(7), 0);
        eyes.draw(1, 0, 2, 1, 0, 1);
        due("truths", eyes.many(7), 2);
        eyes.draw(0, 0, 2, 1, 8, 1);
        due("more truths", eyes.many(7), 3);
        due("below", eyes.many(-1), -1);
        due("above", eyes.many(8), -1);
        due("far", eyes.many(HIGH), -1);
        due("told depths that are all 0", sized(4, 2).many(4), 8);
    }

    // ---- promise 10

    private static void cost() {
        promise = 10;
        TwoEyes eyes = smallRow();
        eyes.rule(0, 2);
        due("(0, 0)", eyes.cost(0, 0, 0), 1);
        due("(1, 0)", eyes.cost(1, 0, 0), 2);
        due("(2, 0)", eyes.cost(2, 0, 0), 1);
        due("(1, 1)", eyes.cost(1, 0, 1), 0);
        due("(2, 1)", eyes.cost(2, 0, 1), 0);
        due("(2, 2): no neighbour is known of both", eyes.cost(2, 0, 2), 0);
        due("not in the picture", eyes.cost(0, 0, 1), NONE);
        due("not in the picture either", eyes.cost(1, 0, 2), NONE);
        due("depth above D", eyes.cost(2, 0, 3), NUMBER);
        due("depth below", eyes.cost(2, 0, -1), NUMBER);
        due("depth before none", eyes.cost(0, 0, 3), NUMBER);
        due("column", eyes.cost(3, 0, 0), NUMBER);
        due("column below", eyes.cost(-1, 0, 0), NUMBER);
        due("row", eyes.cost(0, 1, 0), NUMBER);
        due("row below", eyes.cost(0, -1, 0), NUMBER);
        eyes.lose(1, 1, 0);
        due("right one lost", eyes.cost(2, 0, 1), NONE);
        due("its neighbours don't know it", eyes.cost(0, 0, 0), 0);
        eyes.shade(1, 1, 0, 20);
        eyes.row(0, 0, true);
        due("left row missing", eyes.cost(1, 0, 1), NONE);
        eyes.row(0, 0, false);
        due("and back", eyes.cost(1, 0, 0), 2);
    }

    /** The middle SQUARES have 50, all around 60: then one NEIGHBOUR at a time is changed. */
    private static void costOfEachNeighbour() {
        int[][] away = {{-1, -1}, {0, -1}, {1, -1}, {-1, 0}, {1, 0}, {-1, 1}, {0, 1}, {1, 1}};
        for (int d = 0; d <= 2; d++) {
            TwoEyes eyes = sized(6, 3);
            for (int y = 0; y < 3; y++) {
                fill(eyes, 0, y, 60, 60, 60, 60, 60, 60);
                fill(eyes, 1, y, 60, 60, 60, 60, 60, 60);
            }
            int x = 1 + d;
            eyes.shade(0, x, 1, 50);
            eyes.shade(1, 1, 1, 50);
            for (int k = 0; k < 8; k++) {
                int u = x + away[k][0];
                int v = 1 + away[k][1];
                String name = " neighbour " + k + " at depth " + d;
                due("none is dark" + name, eyes.cost(x, 1, d), 0);
                eyes.shade(0, u, v, 50);
                due("equal is not dark" + name, eyes.cost(x, 1, d), 0);
                eyes.shade(0, u, v, 49);
                due("dark of one" + name, eyes.cost(x, 1, d), 1);
                eyes.lose(1, u - d, v);
                due("known of one" + name, eyes.cost(x, 1, d), 0);
                eyes.shade(1, u - d, v, 0);
                due("dark of both" + name, eyes.cost(x, 1, d), 0);
                eyes.shade(0, u, v, 60);
                due("dark of the other" + name, eyes.cost(x, 1, d), 1);
                eyes.shade(1, u - d, v, 60);
            }
        }
    }

    // ---- promises 11 to 13

    private static void path() {
        promise = 11;
        TwoEyes eyes = smallRow();
        due("all matched by 0: 1 + 2 + 1", eyes.path(0), 4);
        eyes.rule(1, 1);
        due("one hidden on each side", eyes.path(0), 2);
        eyes.rule(1, 0);
        due("hiding is free", eyes.path(0), 0);
        eyes.rule(1, 1);
        eyes.rule(0, 0);
        due("no depth but 0", eyes.path(0), 4);
        due("row", eyes.path(1), NUMBER);
        due("row below", eyes.path(-1), NUMBER);
        due("row far", eyes.path(HIGH), NUMBER);
        eyes.row(1, 0, true);
        eyes.rule(1, 20);
        due("nothing can be matched", eyes.path(0), 120);
        TwoEyes wide = sized(20, 10);
        due("all alike", wide.path(9), 0);
        wide.row(0, 9, true);
        due("all hidden", wide.path(9), 120);
        due("another row", wide.path(8), 0);
    }

    private static void matched() {
        promise = 12;
        TwoEyes eyes = smallRow();
        dueMatched("by 0", eyes, 0, 0, 0);
        eyes.rule(1, 2);
        dueMatched("of equals the path that starts with a match", eyes, 0, 0, 0);
        eyes.rule(1, 1);
        dueMatched("the first hidden", eyes, NONE, 1, 1);
        eyes.rule(0, 0);
        dueMatched("a match before hiding both", eyes, 0, 0, 0);
        eyes.rule(1, 0);
        dueMatched("hiding is free", eyes, NONE, NONE, NONE);
        due("column", eyes.matched(3, 0), NUMBER);
        due("column below", eyes.matched(-1, 0), NUMBER);
        due("row", eyes.matched(0, 1), NUMBER);
        due("row below", eyes.matched(0, -1), NUMBER);
        TwoEyes pair = sized(2, 1);
        pair.rule(0, 0);
        pair.rule(1, 0);
        pair.lose(0, 0, 0);
        due("the left one is hidden first", pair.matched(1, 0), NONE);
        pair.rule(1, 1);
        due("where that costs more it isn't", pair.matched(1, 0), 0);
        TwoEyes rows = sized(2, 2);
        rows.row(0, 0, true);
        due("a missing row", rows.matched(1, 0), NONE);
        due("the row below", rows.matched(1, 1), 0);
    }

    private static void hidden() {
        promise = 13;
        TwoEyes eyes = smallRow();
        due("none on the left", eyes.hidden(0, 0), 0);
        eyes.rule(1, 1);
        due("one on the left", eyes.hidden(0, 0), 1);
        due("one on the right", eyes.hidden(1, 0), 1);
        eyes.row(0, 0, true);
        due("all on the left", eyes.hidden(0, 0), 3);
        due("all on the right", eyes.hidden(1, 0), 3);
        due("picture", eyes.hidden(2, 0), NUMBER);
        due("picture below", eyes.hidden(-1, 0), NUMBER);
        due("row", eyes.hidden(0, 1), NUMBER);
        due("row below", eyes.hidden(1, -1), NUMBER);
        TwoEyes rows = sized(2, 2);
        rows.row(1, 1, true);
        due("first row", rows.hidden(1, 0), 0);
        due("second row", rows.hidden(1, 1), 2);
    }

    // ---- promises 14 and 15

    private static void run() {
        promise = 14;
        TwoEyes eyes = smallRow();
        dueRuns("from the left, first", eyes, 0, 3, 1, 8);
        dueRuns("from the left, second", eyes, 1, 3, 2, 1);
        dueRuns("from the left, third", eyes, 2, 3, 2, 0);
        dueRuns("from the right, third", eyes, 2, 4, 1, 0);
        dueRuns("from the right, second", eyes, 1, 4, 3, 0);
        dueRuns("from the right, first", eyes, 0, 4, 2, 8);
        for (int k : new int[] {0, 1, 2, 5, 6, 7}) {
            dueRuns("from outside " + k, eyes, 1, k, 2, 0);
        }
        due("column", eyes.run(3, 0, 0, 0), NUMBER);
        due("column below", eyes.run(-1, 0, 0, 0), NUMBER);
        due("row", eyes.run(0, 1, 0, 0), NUMBER);
        due("row below", eyes.run(0, -1, 0, 0), NUMBER);
        due("depth", eyes.run(0, 0, 2, 0), NUMBER);
        due("depth below", eyes.run(0, 0, -1, 0), NUMBER);
        due("way", eyes.run(0, 0, 0, 8), NUMBER);
        due("way below", eyes.run(0, 0, 0, -1), NUMBER);
        TwoEyes plain = sized(3, 3);
        plain.rule(0, 1);
        // only the SQUARES of column 0 vote against depth 1, by 8
        int[] due = {1, 0, 0, 1, 0, 1, 0, 0};
        for (int k = 0; k < 8; k++) {
            due("middle, way " + k, plain.run(1, 1, 1, k), due[k]);
        }
        plain.rule(2, 20);
        due("P is dear, so Q", plain.run(1, 1, 1, 3), 3);
        plain.rule(3, 40);
        due("both are dear", plain.run(1, 1, 1, 3), 8);
        plain.rule(2, 5);
        due("P again", plain.run(1, 1, 1, 3), 5);
        plain.rule(0, 3);
        due("P reaches one depth, not two", plain.run(1, 1, 2, 0), 8 + 8);
        plain.rule(3, 6);
        due("Q reaches all", plain.run(1, 1, 2, 0), 8 + 6);
    }

    private static void runOverLostSquares() {
        TwoEyes eyes = sized(3, 1);
        eyes.rule(0, 1);
        eyes.lose(0, 1, 0);
        dueRuns("over a lost one, itself", eyes, 1, 3, 0, 1);
        dueRuns("over a lost one, behind it", eyes, 2, 3, 0, 1);
        eyes.lose(0, 0, 0);
        dueRuns("lost counts before not in the picture", eyes, 0, 3, 0, 0);
        eyes.shade(0, 0, 0, 0);
        eyes.lose(1, 0, 0);
        dueRuns("the right one lost", eyes, 0, 3, 0, 8);
    }

    private static void sum() {
        promise = 15;
        TwoEyes eyes = smallRow();
        int[][] due = {{9, 64}, {17, 1}, {9, 0}};
        for (int x = 0; x < 3; x++) {
            due("depth 0 of " + x, eyes.sum(x, 0, 0), due[x][0]);
            due("depth 1 of " + x, eyes.sum(x, 0, 1), due[x][1]);
        }
        due("a run between them", eyes.run(1, 0, 0, 4), 3);
        due("leaves the sums", eyes.sum(1, 0, 0), 17);
        due("column", eyes.sum(3, 0, 0), NUMBER);
        due("column below", eyes.sum(-1, 0, 0), NUMBER);
        due("row", eyes.sum(0, 1, 0), NUMBER);
        due("row below", eyes.sum(0, -1, 0), NUMBER);
        due("depth", eyes.sum(0, 0, 2), NUMBER);
        due("depth below", eyes.sum(0, 0, -1), NUMBER);
        TwoEyes plain = sized(3, 3);
        plain.rule(0, 1);
        due("middle", plain.sum(1, 1, 1), 3);
        due("edge", plain.sum(0, 1, 1), 9 + 9 + 6 * 8);
        plain.lose(0, 0, 1);
        due("edge that is lost", plain.sum(0, 1, 1), 1 + 1);
    }

    // ---- promises 16 and 17

    private static void depth() {
        promise = 16;
        TwoEyes eyes = smallRow();
        int[] left = {0, 1, 1};
        int[] right = {1, 1, 0};
        for (int x = 0; x < 3; x++) {
            due("left " + x, eyes.depth(0, x, 0), left[x]);
            due("right " + x, eyes.depth(1, x, 0), right[x]);
        }
        due("picture", eyes.depth(2, 0, 0), NUMBER);
        due("picture below", eyes.depth(-1, 0, 0), NUMBER);
        due("column", eyes.depth(0, 3, 0), NUMBER);
        due("column below", eyes.depth(1, -1, 0), NUMBER);
        due("row", eyes.depth(0, 0, 1), NUMBER);
        due("row below", eyes.depth(1, 0, -1), NUMBER);
        TwoEyes lost = sized(6, 2);
        lost.row(0, 0, true);
        lost.row(0, 1, true);
        due("left, all equal: the least", lost.depth(0, 5, 1), 0);
        due("right, all equal: the least", lost.depth(1, 0, 1), 0);
        due("of a lost square too", lost.depth(0, 0, 0), 0);
    }

    private static void agreed() {
        promise = 17;
        TwoEyes eyes = smallRow();
        due("another right depth", eyes.agreed(0, 0), -14);
        due("told", eyes.agreed(1, 0), 1);
        due("told, too", eyes.agreed(2, 0), 1);
        due("column", eyes.agreed(3, 0), NUMBER);
        due("column below", eyes.agreed(-1, 0), NUMBER);
        due("row", eyes.agreed(0, 1), NUMBER);
        due("row below", eyes.agreed(0, -1), NUMBER);
        eyes.lose(1, 0, 0);
        due("the right one is lost", eyes.agreed(0, 0), -13);
        eyes.lose(0, 0, 0);
        due("lost comes first", eyes.agreed(0, 0), -11);
        eyes.row(0, 0, true);
        due("lost by its row", eyes.agreed(2, 0), -11);
        outsideTheRightPicture();
    }

    /**
     * Stripes, by one column apart in both PICTURES, and a change of depth is dear: so (0, 3) has
     * depth 1 like all beside it, though column -1 is none. What is lost above and below it
     * doesn't vote against that. Depth 0 costs it 8 times 3, and 20, 14, 14 by the ways from the right.
     */
    private static void outsideTheRightPicture() {
        TwoEyes eyes = sized(8, 7);
        eyes.rule(0, 1);
        eyes.rule(2, 20);
        eyes.rule(3, 40);
        for (int y = 0; y < 7; y++) {
            fill(eyes, 0, y, 0, 100, 0, 100, 0, 100, 0, 100);
            fill(eyes, 1, y, 100, 0, 100, 0, 100, 0, 100, 0);
            if (y != 3) {
                eyes.lose(0, 0, y);
            }
        }
        due("sum of 0", eyes.sum(0, 3, 0), 72);
        due("sum of 1", eyes.sum(0, 3, 1), 64);
        due("left depth", eyes.depth(0, 0, 3), 1);
        due("not in the picture", eyes.agreed(0, 3), -12);
        eyes.lose(0, 0, 3);
        due("lost comes before that", eyes.agreed(0, 3), -11);
    }

    // ---- promises 18 and 19

    private static void segment() {
        promise = 18;
        TwoEyes eyes = sized(4, 3);
        fill(eyes, 0, 0, 0, 200, 10, 21);
        fill(eyes, 0, 1, 5, 14, 20, 200);
        fill(eyes, 0, 2, 200, 0, 200, 190);
        due("first", eyes.segment(0, 0), 0);
        due("below", eyes.segment(0, 1), 0);
        due("over others, by just T", eyes.segment(1, 1), 0);
        due("around", eyes.segment(2, 0), 0);
        due("one more than T", eyes.segment(3, 0), 3);
        due("alone", eyes.segment(1, 0), 1);
        due("not across a corner", eyes.segment(0, 2), 8);
        due("too unlike", eyes.segment(1, 2), 9);
        due("beside and above", eyes.segment(2, 2), 7);
        due("its least place", eyes.segment(3, 2), 7);
        due("count", eyes.many(5), 6);
        due("column", eyes.segment(4, 0), NUMBER);
        due("column below", eyes.segment(-1, 0), NUMBER);
        due("row", eyes.segment(0, 3), NUMBER);
        due("row below", eyes.segment(0, -1), NUMBER);
        eyes.lose(0, 1, 1);
        due("lost", eyes.segment(1, 1), LOST);
        due("what hung together over it", eyes.segment(2, 1), 2);
        due("and the rest", eyes.segment(0, 1), 0);
        eyes.row(0, 0, true);
        due("lost by its row", eyes.segment(0, 0), LOST);
        due("a new anchor", eyes.segment(0, 1), 4);
        TwoEyes late = sized(2, 2);
        late.shade(0, 0, 0, 200);
        due("joined from behind", late.segment(0, 1), 1);
    }

    private static void extent() {
        promise = 19;
        TwoEyes eyes = sized(4, 3);
        fill(eyes, 0, 0, 0, 200, 10, 21);
        fill(eyes, 0, 1, 5, 14, 20, 200);
        fill(eyes, 0, 2, 200, 0, 200, 190);
        due("the great one", eyes.extent(2, 1), 5);
        due("three", eyes.extent(3, 1), 3);
        due("alone", eyes.extent(1, 0), 1);
        eyes.rule(4, 255);
        due("all", eyes.extent(0, 0), 12);
        eyes.rule(4, 0);
        due("only equals", eyes.extent(3, 1), 1);
        eyes.lose(0, 3, 1);
        due("lost", eyes.extent(3, 1), LOST);
        eyes.row(0, 0, true);
        due("lost by its row", eyes.extent(0, 0), LOST);
        due("column", eyes.extent(4, 0), NUMBER);
        due("column below", eyes.extent(-1, 0), NUMBER);
        due("row", eyes.extent(0, 3), NUMBER);
        due("row below", eyes.extent(0, -1), NUMBER);
        due("number before lost", eyes.extent(4, 0), NUMBER);
        TwoEyes wide = sized(20, 10);
        due("greatest", wide.extent(19, 9), 200);
    }

    // ---- promise 20

    private static void plane() {
        promise = 20;
        duePlane("one square", new TwoEyes(), 0, 0, 0, 0, 0, 0, 0);
        TwoEyes pair = sized(2, 1);
        duePlane("half of -1 is -1", pair, 1, 0, 0, 2, 0, 0, 0);
        TwoEyes tower = sized(1, 3);
        duePlane("c, not a", tower, 0, 2, 0, 0, 2, 0, 0);
        TwoEyes aslant = sized(5, 1);
        aslant.rule(0, 2);
        aslant.lose(1, 3, 0);
        aslant.lose(1, 4, 0);
        duePlane("a is 1", aslant, 4, 0, 0, 3, 0, 0, 2);
        due("in between", aslant.plane(3, 0, 4), 1);
        aslant.lose(1, 2, 0);
        duePlane("the least b, then a", aslant, 4, 0, 0, 3, 0, 18, 2);
        TwoEyes down = sized(3, 5);
        down.rule(0, 2);
        int[] right = {2, 2, 1, 1, 0};
        for (int y = 0; y < 5; y++) {
            for (int x = 0; x < 3; x++) {
                if (x < 2) {
                    down.lose(0, x, y);
                }
                if (x != right[y]) {
                    down.lose(1, x, y);
                }
            }
        }
        duePlane("c is 1", down, 2, 4, 0, 0, 3, 0, 2);
        due("in between", down.plane(2, 2, 4), 1);
        TwoEyes last = sized(3, 1);
        last.lose(0, 0, 0);
        last.lose(0, 1, 0);
        last.lose(1, 1, 0);
        last.lose(1, 2, 0);
        duePlane("b is 2", last, 2, 0, 2, 0, 0, 0, 2);
        last.rule(0, 1);
        duePlane("no depth has a cost", last, 2, 0, 0, 0, 0, 9, 0);
        TwoEyes steep = sized(3, 1);
        for (int x = 1; x < 3; x++) {
            steep.lose(1, x, 0);
        }
        duePlane("a is 2", steep, 2, 0, 0, 4, 0, 0, 2);
        TwoEyes falling = sized(3, 3);
        for (int y = 0; y < 3; y++) {
            for (int x = 0; x < 3; x++) {
                if (x < 2) {
                    falling.lose(0, x, y);
                }
                if (x != 2 - y) {
                    falling.lose(1, x, y);
                }
            }
        }
        duePlane("c is 2", falling, 2, 2, 0, 0, 4, 0, 2);
        TwoEyes unlike = smallRow();
        unlike.rule(4, 255);
        // 1 + 2 + 1 by depth 0; 9 + 0 + 0 by depth 1; 1 + 2 + 0 by 0, 0, 1
        duePlane("costs are added", unlike, 2, 0, 0, 3, 0, 3, 1);
        unlike.rule(0, 0);
        duePlane("with D 0", unlike, 2, 0, 0, 2, 0, 4, 0);
    }

    private static void planeRefusals() {
        TwoEyes blind = sized(3, 1);
        blind.row(1, 0, true);
        due("depth -2", blind.plane(2, 0, 4), -102);
        due("depth -1", blind.plane(1, 0, 4), -101);
        due("depth 0", blind.plane(0, 0, 4), 0);
        due("9 for each", blind.plane(0, 0, 3), 27);
        TwoEyes hooked = sized(3, 2);
        hooked.rule(0, 0);
        hooked.row(1, 0, true);
        hooked.row(1, 1, true);
        fill(hooked, 0, 0, 200, 200, 0);
        due("depth 1 above D", hooked.plane(0, 1, 4), -99);
        due("what", hooked.plane(0, 0, 5), -1000);
        due("what below", hooked.plane(0, 0, -1), -1000);
        due("column", hooked.plane(3, 0, 0), -1000);
        due("column below", hooked.plane(-1, 0, 0), -1000);
        due("row", hooked.plane(0, 2, 0), -1000);
        due("row below", hooked.plane(0, -1, 0), -1000);
        hooked.lose(0, 0, 0);
        due("lost", hooked.plane(0, 0, 0), -1001);
        due("what before lost", hooked.plane(0, 0, 5), -1000);
        hooked.row(0, 1, true);
        due("lost by its row", hooked.plane(1, 1, 4), -1001);
    }

    // ---- promises 21 and 22

    private static void view() {
        promise = 21;
        TwoEyes eyes = smallRow();
        int[][] due = {{NONE, 5, 20}, {NONE, 5, 20}, {NONE, 5, 20}, {NONE, 5, 20}, {5, 20, NONE}};
        for (int k = 0; k <= 4; k++) {
            for (int x = 0; x < 3; x++) {
                due("view " + k + " column " + x, eyes.view(k, x, 0), due[k][x]);
            }
        }
        due("view", eyes.view(5, 0, 0), NUMBER);
        due("view below", eyes.view(-1, 0, 0), NUMBER);
        due("column", eyes.view(0, 3, 0), NUMBER);
        due("column below", eyes.view(0, -1, 0), NUMBER);
        due("row", eyes.view(0, 0, 1), NUMBER);
        due("row below", eyes.view(0, 0, -1), NUMBER);
    }

    /**
     * A near board before a far one: in the views between some SQUARES come to one column. The seeds
     * were found by trying, since few scenes have such a column; that this one has is tested, too.
     */
    private static void viewWhereSeveralCome() {
        TwoEyes eyes = sized(20, 6);
        eyes.rule(0, 8);
        eyes.draw(0, 0, 20, 6, 1, 17);
        eyes.draw(8, 1, 7, 4, 2, 1017);
        int met = 0;
        int row = 4;
        for (int k = 0; k <= 4; k++) {
            int[] shade = new int[20];
            int[] depth = new int[20];
            for (int x = 0; x < 20; x++) {
                shade[x] = NONE;
                depth[x] = -1;
            }
            for (int x = 0; x < 20; x++) {
                int d = eyes.agreed(x, row);
                int column = d < 0 ? 0 : x - d * k / 4;
                met += d >= 0 && depth[column] >= 0 ? 1 : 0;
                if (d > depth[column]) {
                    shade[column] = eyes.told(0, x, row);
                    depth[column] = d;
                }
            }
            for (int x = 0; x < 20; x++) {
                due("board in view " + k + " column " + x, eyes.view(k, x, row), shade[x]);
            }
        }
        due("several came somewhere", met > 0 ? 1 : 0, 1);
    }

    private static void holes() {
        promise = 22;
        TwoEyes eyes = smallRow();
        for (int k = 0; k <= 4; k++) {
            due("view " + k, eyes.holes(k), 1);
        }
        due("below", eyes.holes(-1), NUMBER);
        due("above", eyes.holes(5), NUMBER);
        eyes.row(0, 0, true);
        due("all", eyes.holes(2), 3);
        TwoEyes plain = sized(20, 10);
        due("none", plain.holes(4), 0);
        plain.row(0, 4, true);
        due("a row", plain.holes(1), 20);
    }

    // ---- promises 23 to 25

    /** Seed 1 draws 16838, 38526, 10113, 50283 and so on: by 256 these leave what stands below. */
    private static void draw() {
        promise = 23;
        TwoEyes eyes = sized(4, 3);
        eyes.lose(0, 1, 1);
        eyes.lose(1, 0, 1);
        eyes.lose(1, 3, 1);
        eyes.lose(0, 3, 2);
        due("count", eyes.draw(1, 1, 2, 2, 1, 1), 4);
        dueRow("left, above", eyes, 0, 0, 0, 0, 0, 0);
        dueRow("left, first row", eyes, 0, 1, 0, 198, 126, 0);
        dueRow("left, second row", eyes, 0, 2, 0, 129, 107, LOST);
        dueRow("right, above", eyes, 1, 0, 0, 0, 0, 0);
        dueRow("right, first row", eyes, 1, 1, 198, 126, 0, LOST);
        dueRow("right, second row", eyes, 1, 2, 129, 107, 0, 0);
        due("truth", eyes.truth(2, 2), 1);
        due("truths", eyes.many(7), 4);
        due("one column comes into the right picture", eyes.draw(0, 0, 4, 1, 3, 1), 4);
        dueRow("left", eyes, 0, 0, 198, 126, 129, 107);
        dueRow("right", eyes, 1, 0, 107, 0, 0, 0);
        due("none does", eyes.draw(0, 0, 4, 1, 8, 2), 4);
        dueRow("right as before", eyes, 1, 0, 107, 0, 0, 0);
        due("all", eyes.draw(0, 0, 4, 3, 0, 1), 12);
        dueRow("first row", eyes, 1, 0, 198, 126, 129, 107);
        dueRow("second row", eyes, 1, 1, 75, 251, 226, 251);
        due("third row", eyes.told(0, 0, 2), 84);
        due("third row, next", eyes.told(0, 1, 2), 246);
        due("nothing is lost any more", eyes.many(2) + eyes.many(3), 0);
        eyes.draw(0, 0, 1, 1, 0, 0);
        due("seed 0: 12345 has no high bits", eyes.told(0, 0, 0), 0);
        eyes.draw(0, 0, 1, 1, 0, -1);
        // -1103515245 + 12345 = -1103502900: its highest 16 bits are 48697
        due("a number without sign", eyes.told(0, 0, 0), 48697 % 256);
        TwoEyes fresh = sized(2, 1);
        fresh.shade(0, 0, 0, 9);
        due("cost before", fresh.cost(0, 0, 0), 1);
        fresh.draw(0, 0, 2, 1, 0, 1);
        due("cost after", fresh.cost(0, 0, 0), 0);
    }

    private static void drawRefusals() {
        TwoEyes eyes = sized(4, 3);
        int[][] refused = {
            {0, 0, 5, 1, 0}, {0, 0, 1, 4, 0}, {-1, 0, 2, 1, 0}, {0, -1, 1, 2, 0}, {3, 0, 2, 1, 0}, {0, 2, 1, 2, 0},
            {0, 0, 0, 1, 0}, {0, 0, 1, 0, 0}, {0, 0, -1, 1, 0}, {0, 0, 1, -1, 0}, {0, 0, 1, 1, -1}, {0, 0, 1, 1, 9},
            {1, 0, HIGH, 1, 0}, {0, 1, 1, HIGH, 0}, {HIGH, 0, HIGH, 1, 0}, {4, 0, 1, 1, 0}, {0, 3, 1, 1, 0},
            {4, 0, 0, 1, 0}, {LOW, 0, 1, 1, 0}};
        for (int[] r : refused) {
            due("refused " + java.util.Arrays.toString(r), eyes.draw(r[0], r[1], r[2], r[3], r[4], 1), NUMBER);
        }
        eyes.row(0, 1, true);
        due("left row", eyes.draw(0, 0, 2, 2, 0, 1), MISSING);
        due("number before missing", eyes.draw(0, 0, 2, 2, 9, 1), NUMBER);
        eyes.row(0, 1, false);
        eyes.row(1, 1, true);
        due("right row", eyes.draw(0, 1, 2, 2, 0, 1), MISSING);
        due("right row that gets nothing", eyes.draw(0, 1, 1, 1, 8, 1), MISSING);
        due("no truth by refusals", eyes.many(7), 0);
        due("no shade by refusals", eyes.told(0, 0, 0), 0);
        due("a row above", eyes.draw(0, 0, 2, 1, 0, 1), 2);
        due("a row below", eyes.draw(0, 2, 2, 1, 0, 1), 2);
    }

    private static void truth() {
        promise = 24;
        TwoEyes eyes = sized(4, 2);
        eyes.draw(0, 0, 3, 1, 2, 1);
        eyes.draw(1, 0, 1, 2, 0, 1);
        due("far", eyes.truth(0, 0), 2);
        due("the later one", eyes.truth(1, 0), 0);
        due("far again", eyes.truth(2, 0), 2);
        due("none", eyes.truth(3, 0), NONE);
        due("none below", eyes.truth(0, 1), NONE);
        due("below", eyes.truth(1, 1), 0);
        eyes.lose(0, 0, 0);
        eyes.shade(0, 1, 0, 9);
        eyes.row(0, 1, true);
        due("of a lost one", eyes.truth(0, 0), 2);
        due("of one with another shade", eyes.truth(1, 0), 0);
        due("of a missing row", eyes.truth(1, 1), 0);
        due("column", eyes.truth(4, 0), NUMBER);
        due("column below", eyes.truth(-1, 1), NUMBER);
        due("row", eyes.truth(0, 2), NUMBER);
        due("row below", eyes.truth(0, -1), NUMBER);
    }

    /** Told depths are none, 1, 1; matched are 0, 0, 0, or with H 1 none, 1, 1. */
    private static void score() {
        promise = 25;
        dueScores("truth 1", 1, 3, 2, 0, 1, 0, 2);
        dueScores("truth 0", 0, 3, 0, 2, 1, 3, 0);
        dueScores("truth 1 of two", 1, 2, 1, 0, 1, 0, 1);
        dueScores("truth 2", 2, 3, 0, 2, 1, 0, 0);
        TwoEyes eyes = smallRow();
        for (int what = 0; what <= 3; what++) {
            due("no truth, " + what, eyes.score(what), 0);
        }
        eyes.draw(0, 0, 3, 1, 0, 1);
        due("depths that are all 0", eyes.score(0), 3);
        due("none is another", eyes.score(1), 0);
        due("each has one", eyes.score(2), 0);
        due("below", eyes.score(-1), NUMBER);
        due("above", eyes.score(4), NUMBER);
    }

    private static void dueScores(String label, int truth, int w, int just, int other, int none, int matched, int matchedCheap) {
        TwoEyes eyes = sized(3, 1);
        eyes.draw(0, 0, w, 1, truth, 1);
        makeSmallRow(eyes);
        due(label + ", just", eyes.score(0), just);
        due(label + ", another", eyes.score(1), other);
        due(label + ", none", eyes.score(2), none);
        due(label + ", matched", eyes.score(3), matched);
        eyes.rule(1, 1);
        due(label + ", matched where hiding is cheap", eyes.score(3), matchedCheap);
    }

    // ---- promises 26 to 28

    private static void outline() {
        promise = 26;
        TwoEyes eyes = new TwoEyes();
        due("along x", eyes.outline(0, 2, 255 - 32), 504);
        due("along y", eyes.outline(1, 2, 255 - 2), 504 - 7);
        due("along z", eyes.outline(2, 5, 255 - 2), 504 - 7 - 7);
        due("all bits", eyes.outline(0, 2, -1), 512 - 8 - 7);
        due("lowest 8 bits", eyes.outline(1, 2, 0x7FFFFF00), 512 - 64 - 7);
        due("the same again", eyes.outline(1, 2, 0x100), 512 - 64 - 7);
        due("last row", eyes.outline(2, 7, 0), 512 - 64 - 7 - 56);
        due("outline", eyes.outline(3, 0, 0), NUMBER);
        due("outline below", eyes.outline(-1, 0, 0), NUMBER);
        due("row", eyes.outline(0, 8, 0), NUMBER);
        due("row below", eyes.outline(2, -1, 0), NUMBER);
        due("row far", eyes.outline(0, HIGH, 0), NUMBER);
        due("outline far", eyes.outline(LOW, 0, 0), NUMBER);
        due("refusals change nothing", eyes.many(6), 512 - 64 - 7 - 56);
        eyes.size(2, 2);
        due("nor does size", eyes.many(6), 512 - 64 - 7 - 56);
    }

    private static void cube() {
        promise = 27;
        TwoEyes eyes = new TwoEyes();
        dueCube("first", eyes, 0, 0, 0, true);
        dueCube("last", eyes, 7, 7, 7, true);
        int[][] outside = {{8, 0, 0}, {0, 8, 0}, {0, 0, 8}, {-1, 0, 0}, {0, -1, 0}, {0, 0, -1}, {HIGH, LOW, 0}, {32, 1, 1}};
        for (int[] o : outside) {
            dueCube("outside " + java.util.Arrays.toString(o), eyes, o[0], o[1], o[2], false);
        }
        eyes.outline(0, 2, 255 - 32);
        for (int x = 0; x < 8; x++) {
            dueCube("seen along x " + x, eyes, x, 5, 2, false);
        }
        dueCube("y and z the other way", eyes, 0, 2, 5, true);
        eyes.outline(1, 3, 255 - 64);
        for (int y = 0; y < 8; y++) {
            dueCube("seen along y " + y, eyes, 6, y, 3, false);
        }
        dueCube("x and z the other way", eyes, 3, 0, 6, true);
        eyes.outline(2, 4, 255 - 1);
        for (int z = 0; z < 8; z++) {
            dueCube("seen along z " + z, eyes, 0, 4, z, false);
        }
        dueCube("x and y the other way", eyes, 4, 0, 0, true);
    }

    private static void empty() {
        promise = 28;
        TwoEyes eyes = new TwoEyes();
        dueEmpty("whole", eyes, 0, 0, 0);
        eyes.outline(0, 3, 0);
        dueEmpty("no z 3 along x", eyes, 0, 8, 0);
        eyes.outline(2, 4, 0);
        dueEmpty("no y 4 along z", eyes, 7, 8, 0);
        eyes.outline(1, 3, 15);
        dueEmpty("fewer bits at z 3", eyes, 7, 4, 0);
        TwoEyes other = new TwoEyes();
        other.outline(1, 6, 0);
        dueEmpty("no z 6 along y", other, 8, 0, 0);
        TwoEyes thin = new TwoEyes();
        for (int z = 0; z < 8; z++) {
            thin.outline(1, z, 255 - 4);
        }
        dueEmpty("no x 2 along y", thin, 0, 0, 8);
        due("below", eyes.empty(-1), NUMBER);
        due("above", eyes.empty(3), NUMBER);
    }

    // ---- promises 29 and 30

    private static void keep() {
        promise = 29;
        TwoEyes eyes = sized(3, 2);
        due("a first time", eyes.keep(), 1);
        eyes.shade(0, 2, 1, 7);
        eyes.back();
        due("what came later is not kept", eyes.told(0, 2, 1), 0);
        eyes.shade(0, 2, 1, 8);
        due("in place of what was kept", eyes.keep(), 1);
        eyes.shade(0, 2, 1, 9);
        due("it changes nothing", eyes.told(0, 2, 1), 9);
        eyes.back();
        due("the later one", eyes.told(0, 2, 1), 8);
    }

    private static void back() {
        promise = 30;
        TwoEyes eyes = sized(3, 2);
        eyes.shade(1, 2, 1, 7);
        due("nothing is kept", eyes.back(), NONE);
        due("and nothing changes", eyes.told(1, 2, 1), 7);
        eyes.draw(0, 0, 2, 1, 1, 1);
        eyes.lose(0, 2, 0);
        eyes.row(1, 1, true);
        eyes.keep();
        for (int i = 0; i < 2; i++) {
            eyes.size(5, 4);
            eyes.rule(0, 2 + i);
            eyes.outline(0, 0, 0);
            eyes.draw(0, 0, 5, 4, 2, 3);
            eyes.lose(0, 0, 0);
            eyes.row(0, 0, true);
            due("back " + i, eyes.back(), 1);
            due("width " + i, eyes.many(0), 3);
            due("height " + i, eyes.many(1), 2);
            dueRow("left " + i, eyes, 0, 0, 198, 126, LOST);
            dueRow("right row is missing " + i, eyes, 1, 1, LOST, LOST, LOST);
            due("truth " + i, eyes.truth(1, 0), 1);
            due("no truth " + i, eyes.truth(2, 0), NONE);
            due("truths " + i, eyes.many(7), 2);
            due("the rules stay " + i, eyes.rule(0, 2 + i), 2 + i);
            due("the body stays " + i, eyes.many(6), 448);
            due("the row comes back " + i, eyes.row(1, 1, false), 1);
            due("with what it had " + i, eyes.told(1, 2, 1), 7);
            eyes.shade(0, 0, 0, 1);
        }
        // above left and left are dark of the right one alone
        due("cost before", eyes.cost(2, 1, 0), 2);
        eyes.back();
        due("cost after", eyes.cost(2, 1, 0), NONE);
    }

    // ---- helpers

    private static TwoEyes sized(int width, int height) {
        TwoEyes eyes = new TwoEyes();
        eyes.size(width, height);
        return eyes;
    }

    /** D 1; by depth 0 its COSTS are 1, 2, 1, by depth 1 none, 0, 0. */
    private static TwoEyes smallRow() {
        TwoEyes eyes = sized(3, 1);
        makeSmallRow(eyes);
        return eyes;
    }

    private static void makeSmallRow(TwoEyes eyes) {
        eyes.rule(0, 1);
        fill(eyes, 0, 0, 10, 5, 20);
        fill(eyes, 1, 0, 5, 20, 10);
    }

    private static void fill(TwoEyes eyes, int picture, int y, int... shades) {
        for (int x = 0; x < shades.length; x++) {
            eyes.shade(picture, x, y, shades[x]);
        }
    }

    private static void due(String label, int got, int want) {
        asked++;
        if (got != want) {
            wrong++;
            System.out.println("promise " + promise + ", " + label + ": answered " + got + ", due is " + want);
        }
    }

    private static void dueRow(String label, TwoEyes eyes, int picture, int y, int... want) {
        for (int x = 0; x < want.length; x++) {
            due(label + ", column " + x, eyes.told(picture, x, y), want[x]);
        }
    }

    private static void dueMatched(String label, TwoEyes eyes, int... want) {
        for (int x = 0; x < want.length; x++) {
            due(label + ", column " + x, eyes.matched(x, 0), want[x]);
        }
    }

    private static void dueRuns(String label, TwoEyes eyes, int x, int k, int... want) {
        for (int d = 0; d < want.length; d++) {
            due(label + ", depth " + d, eyes.run(x, 0, d, k), want[d]);
        }
    }

    private static void duePlane(String label, TwoEyes eyes, int x, int y, int... want) {
        for (int what = 0; what < want.length; what++) {
            due(label + ", what " + what, eyes.plane(x, y, what), want[what]);
        }
    }

    private static void dueCube(String label, TwoEyes eyes, int x, int y, int z, boolean want) {
        due(label, eyes.cube(x, y, z) ? 1 : 0, want ? 1 : 0);
    }

    private static void dueEmpty(String label, TwoEyes eyes, int... want) {
        for (int o = 0; o < want.length; o++) {
            due(label + ", outline " + o, eyes.empty(o), want[o]);
        }
    }
}
