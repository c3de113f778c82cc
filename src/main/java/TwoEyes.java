import java.util.Arrays;

/**
 * Two eyes: a left and a right picture with lost squares, and what can be told from them.
 * The words in capitals are those of the document's section 'Terms'.
 */
public final class TwoEyes {
    /** A number is none, or none that may be. */
    public static final int NUMBER = -1;
    /** A row is MISSING. */
    public static final int MISSING = -2;
    /** A length below nought. */
    public static final int SIZE = -3;
    /** There is none. */
    public static final int NONE = -4;
    /** It is LOST. */
    public static final int LOST = -5;

    private static final int MOST_WIDTH = 20;
    private static final int MOST_HEIGHT = 10;
    private static final int MOST_SQUARES = 200;
    /** Every table has room for the depths 0 to 8, so that a new D moves nothing. */
    private static final int DEPTHS = 9;
    private static final int MOST_DEPTH = 8;

    private static final int SHADES = 256;

    private static final int LEFT = 0;
    private static final int RIGHT = 1;

    /** NEIGHBOUR k is ASIDE[k] columns and DOWN[k] rows away. */
    private static final int NEIGHBOURS = 8;
    private static final int[] ASIDE = {-1, 0, 1, -1, 1, -1, 0, 1};
    private static final int[] DOWN = {-1, -1, -1, 0, 0, 1, 1, 1};
    /** The NEIGHBOURS below this one have lower PLACES than the SQUARE, the others higher ones. */
    private static final int FIRST_BEHIND = 4;

    private static final int D = 0;
    private static final int H = 1;
    private static final int P = 2;
    private static final int Q = 3;
    private static final int T = 4;
    private static final int RULES = 5;
    private static final int[] RULE_MOST = {8, 20, 20, 40, 255};

    /** The refusals of plane, whose depths below nought would meet the usual ones. */
    private static final int PLANE_NUMBER = -1000;
    private static final int PLANE_LOST = -1001;

    private final Scene scene = new Scene();
    private final Scene kept = new Scene();
    private boolean anyKept = false;
    private final int[] rules = {4, 3, 1, 3, 10};
    private final Costs costs = new Costs();
    private final Paths paths = new Paths();
    private final Sums sums = new Sums();
    private final Depths depths = new Depths();
    private final Segments segments = new Segments();
    private final Planes planes = new Planes();
    private final Body body = new Body();

    public TwoEyes() {
    }

    // ---- pictures

    public int size(int width, int height) {
        if (width < 1 || width > MOST_WIDTH || height < 1 || height > MOST_HEIGHT) {
            return NUMBER;
        }
        scene.renew(width, height);
        forgetAll();
        return width * height;
    }

    public int shade(int picture, int x, int y, int v) {
        int refusal = scene.refusalToWrite(picture, x, y);
        if (refusal < 0) {
            return refusal;
        }
        scene.pictureOf(picture).squares[scene.placeOf(x, y)] = v & 255;
        forgetAll();
        return 1;
    }

    public int lose(int picture, int x, int y) {
        int refusal = scene.refusalToWrite(picture, x, y);
        if (refusal < 0) {
            return refusal;
        }
        if (scene.seen(picture, x, y) == LOST) {
            return 0;
        }
        scene.pictureOf(picture).squares[scene.placeOf(x, y)] = LOST;
        forgetAll();
        return 1;
    }

    public int row(int picture, int y, boolean missing) {
        if (!scene.hasRow(picture, y)) {
            return NUMBER;
        }
        Picture its = scene.pictureOf(picture);
        if (its.missing[y] == missing) {
            return 0;
        }
        its.missing[y] = missing;
        forgetAll();
        return 1;
    }

    public int copy(int picture, int x, int y, int n, int other, int u, int v) {
        if (!scene.hasRow(picture, y) || !scene.hasRow(other, v)) {
            return NUMBER;
        }
        Picture from = scene.pictureOf(picture);
        Picture to = scene.pictureOf(other);
        if (from.missing[y] || to.missing[v]) {
            return MISSING;
        }
        if (n < 0) {
            return SIZE;
        }
        if (!scene.hasColumns(x, n) || !scene.hasColumns(u, n)) {
            return NUMBER;
        }
        // arraycopy reads all before it writes, also where both stretches overlap
        System.arraycopy(from.squares, scene.placeOf(x, y), to.squares, scene.placeOf(u, v), n);
        forgetAll();
        return n;
    }

    public int told(int picture, int x, int y) {
        if (!scene.hasPicture(picture) || !scene.hasSquare(x, y)) {
            return NUMBER;
        }
        return scene.seen(picture, x, y);
    }

    public int rule(int what, int v) {
        if (what < 0 || what >= RULES || v < 0 || v > RULE_MOST[what]) {
            return NUMBER;
        }
        int before = rules[what];
        rules[what] = v;
        forgetAll();
        return before;
    }

    public int many(int what) {
        switch (what) {
            case 0:
                return scene.width;
            case 1:
                return scene.height;
            case 2:
                return scene.countLost(LEFT);
            case 3:
                return scene.countLost(RIGHT);
            case 4:
                refreshDepths();
                return depths.countTold(scene.countSquares());
            case 5:
                refreshSegments();
                return segments.countAnchors(scene.countSquares());
            case 6:
                return body.countCubes();
            case 7:
                return scene.countTruths();
            default:
                return NUMBER;
        }
    }

    // ---- costs, paths

    public int cost(int x, int y, int d) {
        if (!scene.hasSquare(x, y) || !isDepth(d)) {
            return NUMBER;
        }
        refreshCosts();
        return costs.table[scene.placeOf(x, y) * DEPTHS + d];
    }

    public int path(int y) {
        if (!scene.hasHeight(y)) {
            return NUMBER;
        }
        refreshPath(y);
        return paths.total[y];
    }

    public int matched(int x, int y) {
        if (!scene.hasSquare(x, y)) {
            return NUMBER;
        }
        refreshPath(y);
        return paths.match[scene.placeOf(x, y)];
    }

    public int hidden(int picture, int y) {
        if (!scene.hasRow(picture, y)) {
            return NUMBER;
        }
        refreshPath(y);
        // each match takes one SQUARE of either PICTURE, so both have as many HIDDEN ones
        return paths.countHidden(y, scene.width);
    }

    // ---- sums, depths

    public int run(int x, int y, int d, int k) {
        if (!scene.hasSquare(x, y) || !isDepth(d) || k < 0 || k >= NEIGHBOURS) {
            return NUMBER;
        }
        refreshCosts();
        sums.goAlong(k, scene, costs, rules);
        return sums.runs[scene.placeOf(x, y) * DEPTHS + d];
    }

    public int sum(int x, int y, int d) {
        if (!scene.hasSquare(x, y) || !isDepth(d)) {
            return NUMBER;
        }
        refreshSums();
        return sums.totals[scene.placeOf(x, y) * DEPTHS + d];
    }

    public int depth(int picture, int x, int y) {
        if (!scene.hasPicture(picture) || !scene.hasSquare(x, y)) {
            return NUMBER;
        }
        refreshSums();
        int place = scene.placeOf(x, y);
        return picture == LEFT
            ? sums.leftDepth(place, rules[D])
            : sums.rightDepth(place, Math.min(rules[D], scene.width - 1 - x));
    }

    public int agreed(int x, int y) {
        if (!scene.hasSquare(x, y)) {
            return NUMBER;
        }
        refreshDepths();
        return depths.told[scene.placeOf(x, y)];
    }

    // ---- segments

    public int segment(int x, int y) {
        if (!scene.hasSquare(x, y)) {
            return NUMBER;
        }
        refreshSegments();
        return segments.anchor[scene.placeOf(x, y)];
    }

    public int extent(int x, int y) {
        if (!scene.hasSquare(x, y)) {
            return NUMBER;
        }
        refreshSegments();
        int anchor = segments.anchor[scene.placeOf(x, y)];
        return anchor == LOST ? LOST : segments.countOf(anchor, scene.countSquares());
    }

    public int plane(int x, int y, int what) {
        if (!scene.hasSquare(x, y) || what < 0 || what > 4) {
            return PLANE_NUMBER;
        }
        refreshSegments();
        int anchor = segments.anchor[scene.placeOf(x, y)];
        if (anchor == LOST) {
            return PLANE_LOST;
        }
        refreshCosts();
        planes.find(anchor, scene, segments, costs, rules[D]);
        switch (what) {
            case 0:
                return planes.b;
            case 1:
                return planes.a + 2;
            case 2:
                return planes.c + 2;
            case 3:
                return planes.price;
            default:
                int d = planes.depthAt(x, y);
                return isDepth(d) ? d : d - 100;
        }
    }

    // ---- views, scenes

    public int view(int k, int x, int y) {
        if (k < 0 || k > 4 || !scene.hasSquare(x, y)) {
            return NUMBER;
        }
        refreshDepths();
        int column = depths.comesFrom(k, x, y, scene.width);
        return column == NONE ? NONE : scene.seen(LEFT, column, y);
    }

    public int holes(int k) {
        if (k < 0 || k > 4) {
            return NUMBER;
        }
        refreshDepths();
        int count = 0;
        for (int y = 0; y < scene.height; y++) {
            for (int x = 0; x < scene.width; x++) {
                if (depths.comesFrom(k, x, y, scene.width) == NONE) {
                    count++;
                }
            }
        }
        return count;
    }

    public int draw(int x, int y, int w, int h, int d, int seed) {
        if (w < 1 || h < 1 || !scene.hasColumns(x, w) || !scene.hasRows(y, h)
            || d < 0 || d > MOST_DEPTH) {
            return NUMBER;
        }
        if (scene.anyMissing(y, h)) {
            return MISSING;
        }
        scene.drawBoard(x, y, w, h, d, seed);
        forgetAll();
        return w * h;
    }

    public int truth(int x, int y) {
        return scene.hasSquare(x, y) ? scene.truth[scene.placeOf(x, y)] : NUMBER;
    }

    public int score(int what) {
        if (what < 0 || what > 3) {
            return NUMBER;
        }
        if (what == 3) {
            return countMatchedByTruth();
        }
        refreshDepths();
        int count = 0;
        int squares = scene.countSquares();
        for (int place = 0; place < squares; place++) {
            if (scene.truth[place] != NONE && verdict(depths.told[place], scene.truth[place]) == what) {
                count++;
            }
        }
        return count;
    }

    // ---- the body

    public int outline(int o, int r, int v) {
        if (!body.hasOutline(o) || r < 0 || r >= Body.EDGE) {
            return NUMBER;
        }
        body.rows[o * Body.EDGE + r] = v & 255;
        return body.countCubes();
    }

    public boolean cube(int x, int y, int z) {
        return body.has(x, y, z);
    }

    public int empty(int o) {
        return body.hasOutline(o) ? body.countEmpty(o) : NUMBER;
    }

    // ---- kept

    public int keep() {
        kept.become(scene);
        anyKept = true;
        return 1;
    }

    public int back() {
        if (!anyKept) {
            return NONE;
        }
        scene.become(kept);
        forgetAll();
        return 1;
    }

    // ---- what is worked out, and when it must be worked out anew

    private void forgetAll() {
        costs.fresh = false;
        paths.forget();
        sums.forget();
        depths.fresh = false;
        segments.fresh = false;
        planes.anchor = NONE;
    }

    private void refreshCosts() {
        if (!costs.fresh) {
            costs.measureAll(scene);
        }
    }

    private void refreshPath(int y) {
        refreshCosts();
        if (paths.total[y] == NONE) {
            paths.walk(y, scene, costs, rules);
        }
    }

    private void refreshSums() {
        refreshCosts();
        if (!sums.added) {
            sums.addAll(scene, costs, rules);
        }
    }

    private void refreshDepths() {
        refreshSums();
        if (!depths.fresh) {
            depths.tellAll(scene, costs, sums, rules[D]);
        }
    }

    private void refreshSegments() {
        if (!segments.fresh) {
            segments.gather(scene, rules[T]);
        }
    }

    private boolean isDepth(int d) {
        return d >= 0 && d <= rules[D];
    }

    private int countMatchedByTruth() {
        int count = 0;
        for (int y = 0; y < scene.height; y++) {
            refreshPath(y);
            for (int x = 0; x < scene.width; x++) {
                int place = scene.placeOf(x, y);
                if (scene.truth[place] != NONE && scene.truth[place] == paths.match[place]) {
                    count++;
                }
            }
        }
        return count;
    }

    /** Which of the scores 0 to 2 a SQUARE with a TRUTH counts for. */
    private static int verdict(int told, int truth) {
        if (told < 0) {
            return 2;
        }
        return told == truth ? 0 : 1;
    }

    /** What one eye was given. */
    private static final class Picture {
        /** By PLACES the SHADE, or LOST: the SHADE under a LOST SQUARE never comes back. */
        final int[] squares = new int[MOST_SQUARES];
        /** Apart from the squares, since these come back with their ROW. */
        final boolean[] missing = new boolean[MOST_HEIGHT];

        void clear() {
            Arrays.fill(squares, 0);
            for (int y = 0; y < MOST_HEIGHT; y++) {
                missing[y] = false;
            }
        }

        void become(Picture other) {
            System.arraycopy(other.squares, 0, squares, 0, MOST_SQUARES);
            System.arraycopy(other.missing, 0, missing, 0, MOST_HEIGHT);
        }
    }

    /** Both PICTURES and THE TRUTH: all that is kept and comes back. */
    private static final class Scene {
        int width = 1;
        int height = 1;
        final Picture left = new Picture();
        final Picture right = new Picture();
        /** By PLACES the depth, or NONE. */
        final int[] truth = new int[MOST_SQUARES];

        Scene() {
            Arrays.fill(truth, NONE);
        }

        void renew(int newWidth, int newHeight) {
            width = newWidth;
            height = newHeight;
            left.clear();
            right.clear();
            Arrays.fill(truth, NONE);
        }

        void become(Scene other) {
            width = other.width;
            height = other.height;
            left.become(other.left);
            right.become(other.right);
            System.arraycopy(other.truth, 0, truth, 0, MOST_SQUARES);
        }

        boolean hasPicture(int picture) {
            return picture == LEFT || picture == RIGHT;
        }

        boolean hasHeight(int y) {
            return y >= 0 && y < height;
        }

        boolean hasRow(int picture, int y) {
            return hasPicture(picture) && hasHeight(y);
        }

        boolean hasSquare(int x, int y) {
            return x >= 0 && x < width && y >= 0 && y < height;
        }

        /** Told by a difference, as x + n could wrap. */
        boolean hasColumns(int x, int n) {
            return x >= 0 && x <= width && n <= width - x;
        }

        boolean hasRows(int y, int n) {
            return y >= 0 && y <= height && n <= height - y;
        }

        Picture pictureOf(int picture) {
            return picture == LEFT ? left : right;
        }

        int placeOf(int x, int y) {
            return y * width + x;
        }

        int countSquares() {
            return width * height;
        }

        /** The SHADE, or LOST, be it by itself or by its ROW. */
        int seen(int picture, int x, int y) {
            Picture its = picture == LEFT ? left : right;
            return its.missing[y] ? LOST : its.squares[y * width + x];
        }

        /** 0 if the SQUARE may be written; a MISSING row is told before a wrong column. */
        int refusalToWrite(int picture, int x, int y) {
            if (!hasRow(picture, y)) {
                return NUMBER;
            }
            if (pictureOf(picture).missing[y]) {
                return MISSING;
            }
            return hasSquare(x, y) ? 0 : NUMBER;
        }

        int countLost(int picture) {
            int count = 0;
            for (int y = 0; y < height; y++) {
                for (int x = 0; x < width; x++) {
                    if (seen(picture, x, y) == LOST) {
                        count++;
                    }
                }
            }
            return count;
        }

        int countTruths() {
            int count = 0;
            int squares = countSquares();
            for (int place = 0; place < squares; place++) {
                if (truth[place] != NONE) {
                    count++;
                }
            }
            return count;
        }

        boolean anyMissing(int y, int n) {
            for (int j = y; j < y + n; j++) {
                if (left.missing[j] || right.missing[j]) {
                    return true;
                }
            }
            return false;
        }

        void drawBoard(int x, int y, int w, int h, int d, int seed) {
            int state = seed;
            for (int j = y; j < y + h; j++) {
                for (int i = x; i < x + w; i++) {
                    state = 1103515245 * state + 12345;
                    int drawn = (state >>> 16) % SHADES;
                    int place = placeOf(i, j);
                    left.squares[place] = drawn;
                    truth[place] = d;
                    if (i >= d) {
                        right.squares[place - d] = drawn;
                    }
                }
            }
        }
    }

    /** How the NEIGHBOURS of each SQUARE of one PICTURE stand: bit k tells of NEIGHBOUR k. */
    private static final class Stand {
        final int[] known = new int[MOST_SQUARES];
        final int[] dark = new int[MOST_SQUARES];
        final boolean[] lost = new boolean[MOST_SQUARES];

        void lookAround(Scene scene, int picture, int x, int y) {
            int own = scene.seen(picture, x, y);
            int knownBits = 0;
            int darkBits = 0;
            for (int k = 0; k < NEIGHBOURS && own != LOST; k++) {
                int u = x + ASIDE[k];
                int v = y + DOWN[k];
                int other = scene.hasSquare(u, v) ? scene.seen(picture, u, v) : LOST;
                if (other != LOST) {
                    knownBits |= 1 << k;
                    darkBits |= other < own ? 1 << k : 0;
                }
            }
            int place = scene.placeOf(x, y);
            lost[place] = own == LOST;
            known[place] = knownBits;
            dark[place] = darkBits;
        }
    }

    /** The COST of each (x, y, d), whatever D is. */
    private static final class Costs {
        final Stand left = new Stand();
        final Stand right = new Stand();
        /** By PLACES and depths the COST, or NONE. */
        final int[] table = new int[MOST_SQUARES * DEPTHS];
        boolean fresh = false;

        void measureAll(Scene scene) {
            for (int y = 0; y < scene.height; y++) {
                for (int x = 0; x < scene.width; x++) {
                    left.lookAround(scene, LEFT, x, y);
                    right.lookAround(scene, RIGHT, x, y);
                }
            }
            for (int y = 0; y < scene.height; y++) {
                for (int x = 0; x < scene.width; x++) {
                    int place = scene.placeOf(x, y);
                    for (int d = 0; d < DEPTHS; d++) {
                        table[place * DEPTHS + d] = d > x ? NONE : measure(place, place - d);
                    }
                }
            }
            fresh = true;
        }

        private int measure(int leftPlace, int rightPlace) {
            if (left.lost[leftPlace] || right.lost[rightPlace]) {
                return NONE;
            }
            int both = left.known[leftPlace] & right.known[rightPlace];
            return Integer.bitCount(both & (left.dark[leftPlace] ^ right.dark[rightPlace]));
        }
    }

    /** THE PATH of each row, walked when it is first asked for. */
    private static final class Paths {
        private static final int STOPS = 21;

        /** What the rest of THE PATH costs, i left and j right SQUARES being behind it. */
        private final int[] rest = new int[STOPS * STOPS];
        /** By PLACES the d by which a left SQUARE is MATCHED, or NONE. */
        final int[] match = new int[MOST_SQUARES];
        /** By rows what THE PATH costs, NONE as long as it isn't walked. */
        final int[] total = new int[MOST_HEIGHT];

        Paths() {
            Arrays.fill(total, NONE);
        }

        void forget() {
            Arrays.fill(total, NONE);
        }

        void walk(int y, Scene scene, Costs costs, int[] rules) {
            int first = scene.placeOf(0, y);
            int width = scene.width;
            for (int i = width; i >= 0; i--) {
                for (int j = width; j >= 0; j--) {
                    int matching = matching(i, j, first, width, costs, rules[D]);
                    rest[i * STOPS + j] = leastRest(i, j, width, matching, rules[H]);
                }
            }
            total[y] = rest[0];
            follow(first, width, costs, rules);
        }

        /** What step 0 costs behind i left and j right SQUARES, or NONE. */
        private int matching(int i, int j, int first, int width, Costs costs, int deep) {
            int d = i - j;
            if (i >= width || j >= width || d < 0 || d > deep) {
                return NONE;
            }
            return costs.table[(first + i) * DEPTHS + d];
        }

        private int leastRest(int i, int j, int width, int matching, int hiding) {
            if (i == width && j == width) {
                return 0;
            }
            int best = Integer.MAX_VALUE;
            if (matching != NONE) {
                best = matching + rest[(i + 1) * STOPS + j + 1];
            }
            if (i < width) {
                best = Math.min(best, hiding + rest[(i + 1) * STOPS + j]);
            }
            if (j < width) {
                best = Math.min(best, hiding + rest[i * STOPS + j + 1]);
            }
            return best;
        }

        /** From the front on, so that the first unlike step is the least one. */
        private void follow(int first, int width, Costs costs, int[] rules) {
            int i = 0;
            int j = 0;
            for (int step = 0; step < 2 * width; step++) {
                int matching = matching(i, j, first, width, costs, rules[D]);
                int here = rest[i * STOPS + j];
                if (matching != NONE && here == matching + rest[(i + 1) * STOPS + j + 1]) {
                    match[first + i] = i - j;
                    i++;
                    j++;
                } else if (i < width && here == rules[H] + rest[(i + 1) * STOPS + j]) {
                    match[first + i] = NONE;
                    i++;
                } else if (j < width) {
                    j++;
                }
            }
        }

        int countHidden(int y, int width) {
            int count = 0;
            for (int x = 0; x < width; x++) {
                if (match[y * width + x] == NONE) {
                    count++;
                }
            }
            return count;
        }
    }

    /** VOTES, RUNS of one WAY at a time, and SUMS, all by PLACES and depths. */
    private static final class Sums {
        private static final int OUTSIDE = 8;

        private final int[] votes = new int[MOST_SQUARES * DEPTHS];
        final int[] runs = new int[MOST_SQUARES * DEPTHS];
        /** By PLACES the least of the runs. */
        private final int[] least = new int[MOST_SQUARES];
        final int[] totals = new int[MOST_SQUARES * DEPTHS];
        private boolean voted = false;
        boolean added = false;
        /** The WAY that the runs are of, or NONE. */
        private int way = NONE;

        void forget() {
            voted = false;
            added = false;
            way = NONE;
        }

        private void vote(Scene scene, Costs costs, int deep) {
            for (int y = 0; y < scene.height; y++) {
                for (int x = 0; x < scene.width; x++) {
                    int place = scene.placeOf(x, y);
                    for (int d = 0; d <= deep; d++) {
                        votes[place * DEPTHS + d] = voteOf(place, x, d, costs);
                    }
                }
            }
            voted = true;
        }

        private int voteOf(int place, int x, int d, Costs costs) {
            if (costs.left.lost[place]) {
                return 0;
            }
            if (d > x) {
                return OUTSIDE;
            }
            int cost = costs.table[place * DEPTHS + d];
            return cost == NONE ? 0 : cost;
        }

        void addAll(Scene scene, Costs costs, int[] rules) {
            Arrays.fill(totals, 0);
            int end = scene.countSquares() * DEPTHS;
            for (int k = 0; k < NEIGHBOURS; k++) {
                goAlong(k, scene, costs, rules);
                for (int at = 0; at < end; at++) {
                    totals[at] += runs[at];
                }
            }
            added = true;
        }

        /** The SQUARES come in an order in which the NEIGHBOUR is always done before. */
        void goAlong(int k, Scene scene, Costs costs, int[] rules) {
            if (way == k) {
                return;
            }
            if (!voted) {
                vote(scene, costs, rules[D]);
            }
            boolean rising = k < FIRST_BEHIND;
            for (int j = 0; j < scene.height; j++) {
                int y = rising ? j : scene.height - 1 - j;
                for (int i = 0; i < scene.width; i++) {
                    int x = rising ? i : scene.width - 1 - i;
                    int u = x + ASIDE[k];
                    int v = y + DOWN[k];
                    if (scene.hasSquare(u, v)) {
                        goOn(scene.placeOf(x, y), scene.placeOf(u, v), rules);
                    } else {
                        start(scene.placeOf(x, y), rules[D]);
                    }
                }
            }
            way = k;
        }

        private void start(int place, int deep) {
            int low = Integer.MAX_VALUE;
            for (int at = place * DEPTHS; at <= place * DEPTHS + deep; at++) {
                runs[at] = votes[at];
                low = Math.min(low, runs[at]);
            }
            least[place] = low;
        }

        private void goOn(int place, int from, int[] rules) {
            int low = Integer.MAX_VALUE;
            int deep = rules[D];
            for (int d = 0; d <= deep; d++) {
                int there = from * DEPTHS + d;
                int best = Math.min(runs[there], least[from] + rules[Q]);
                if (d > 0) {
                    best = Math.min(best, runs[there - 1] + rules[P]);
                }
                if (d < deep) {
                    best = Math.min(best, runs[there + 1] + rules[P]);
                }
                int run = votes[place * DEPTHS + d] + best - least[from];
                runs[place * DEPTHS + d] = run;
                low = Math.min(low, run);
            }
            least[place] = low;
        }

        int leftDepth(int place, int deep) {
            int best = 0;
            for (int d = 1; d <= deep; d++) {
                if (totals[place * DEPTHS + d] < totals[place * DEPTHS + best]) {
                    best = d;
                }
            }
            return best;
        }

        /** deep being the greatest d whose left SQUARE is in the PICTURE. */
        int rightDepth(int place, int deep) {
            int best = 0;
            for (int d = 1; d <= deep; d++) {
                if (totals[(place + d) * DEPTHS + d] < totals[(place + best) * DEPTHS + best]) {
                    best = d;
                }
            }
            return best;
        }
    }

    /** TOLD DEPTHS, and where they bring the left SQUARES in a VIEW. */
    private static final class Depths {
        private static final int WHY_LOST = -11;
        private static final int WHY_OUTSIDE = -12;
        private static final int WHY_RIGHT_LOST = -13;
        private static final int WHY_UNLIKE = -14;

        /** By PLACES the TOLD DEPTH, or why there is none. */
        final int[] told = new int[MOST_SQUARES];
        boolean fresh = false;

        void tellAll(Scene scene, Costs costs, Sums sums, int deep) {
            for (int y = 0; y < scene.height; y++) {
                for (int x = 0; x < scene.width; x++) {
                    int place = scene.placeOf(x, y);
                    int room = scene.width - 1 - x;
                    told[place] = tell(place, x, room, costs, sums, deep);
                }
            }
            fresh = true;
        }

        /** room being how many columns there are right of the SQUARE. */
        private int tell(int place, int x, int room, Costs costs, Sums sums, int deep) {
            if (costs.left.lost[place]) {
                return WHY_LOST;
            }
            int d = sums.leftDepth(place, deep);
            if (d > x) {
                return WHY_OUTSIDE;
            }
            if (costs.right.lost[place - d]) {
                return WHY_RIGHT_LOST;
            }
            return sums.rightDepth(place - d, Math.min(deep, room + d)) == d ? d : WHY_UNLIKE;
        }

        int countTold(int squares) {
            int count = 0;
            for (int place = 0; place < squares; place++) {
                if (told[place] >= 0) {
                    count++;
                }
            }
            return count;
        }

        /** The column of the left SQUARE that is seen at (x, y) of VIEW k, or NONE. */
        int comesFrom(int k, int x, int y, int width) {
            int column = NONE;
            int greatest = -1;
            for (int i = x; i < width; i++) {
                int d = told[y * width + i];
                if (d > greatest && i - d * k / 4 == x) {
                    greatest = d;
                    column = i;
                }
            }
            return column;
        }
    }

    /** SEGMENTS of the left PICTURE. */
    private static final class Segments {
        /** By PLACES the ANCHOR's PLACE, or LOST. */
        final int[] anchor = new int[MOST_SQUARES];
        boolean fresh = false;

        void gather(Scene scene, int most) {
            for (int y = 0; y < scene.height; y++) {
                for (int x = 0; x < scene.width; x++) {
                    int place = scene.placeOf(x, y);
                    int own = scene.seen(LEFT, x, y);
                    anchor[place] = own == LOST ? LOST : place;
                    if (x > 0 && hangs(own, scene.seen(LEFT, x - 1, y), most)) {
                        join(place, place - 1);
                    }
                    if (y > 0 && hangs(own, scene.seen(LEFT, x, y - 1), most)) {
                        join(place, place - scene.width);
                    }
                }
            }
            fresh = true;
        }

        private static boolean hangs(int own, int other, int most) {
            return own != LOST && other != LOST && Math.abs(own - other) <= most;
        }

        /** place is the last one that has been looked at, so nothing behind it has an ANCHOR yet. */
        private void join(int place, int before) {
            int low = Math.min(anchor[place], anchor[before]);
            int high = Math.max(anchor[place], anchor[before]);
            for (int i = high; i <= place; i++) {
                if (anchor[i] == high) {
                    anchor[i] = low;
                }
            }
        }

        int countAnchors(int squares) {
            int count = 0;
            for (int place = 0; place < squares; place++) {
                if (anchor[place] == place) {
                    count++;
                }
            }
            return count;
        }

        int countOf(int wanted, int squares) {
            int count = 0;
            for (int place = 0; place < squares; place++) {
                if (anchor[place] == wanted) {
                    count++;
                }
            }
            return count;
        }
    }

    /** THE PLANE of the SEGMENT that was asked for last. */
    private static final class Planes {
        private static final int STEEPEST = 2;
        private static final int NO_COST = 9;

        /** The ANCHOR's PLACE of the SEGMENT, or NONE if no PLANE has been found. */
        int anchor = NONE;
        int b = 0;
        int a = 0;
        int c = 0;
        int price = 0;
        private int anchorX = 0;
        private int anchorY = 0;
        /** The SQUARES of the SEGMENT: their PLACES, and how far they are from the ANCHOR. */
        private final int[] places = new int[MOST_SQUARES];
        private final int[] aside = new int[MOST_SQUARES];
        private final int[] down = new int[MOST_SQUARES];
        private int members = 0;

        void find(int wanted, Scene scene, Segments segments, Costs costs, int deep) {
            if (anchor == wanted) {
                return;
            }
            collect(wanted, scene, segments);
            price = Integer.MAX_VALUE;
            for (int tryB = 0; tryB <= deep; tryB++) {
                for (int tryA = -STEEPEST; tryA <= STEEPEST; tryA++) {
                    for (int tryC = -STEEPEST; tryC <= STEEPEST; tryC++) {
                        weigh(tryB, tryA, tryC, costs, deep);
                    }
                }
            }
            anchor = wanted;
        }

        private void collect(int wanted, Scene scene, Segments segments) {
            members = 0;
            for (int y = 0; y < scene.height; y++) {
                for (int x = 0; x < scene.width; x++) {
                    int place = scene.placeOf(x, y);
                    if (segments.anchor[place] == wanted) {
                        add(place, x, y);
                    }
                }
            }
        }

        /** The ANCHOR has the least PLACE, so it comes first. */
        private void add(int place, int x, int y) {
            if (members == 0) {
                anchorX = x;
                anchorY = y;
            }
            places[members] = place;
            aside[members] = x - anchorX;
            down[members] = y - anchorY;
            members++;
        }

        /** Gives up once it costs as much as the best one: of equals the earlier stays. */
        private void weigh(int tryB, int tryA, int tryC, Costs costs, int deep) {
            int cost = 0;
            for (int m = 0; m < members && cost < price; m++) {
                int d = tryB + half(tryA * aside[m] + tryC * down[m]);
                int own = d < 0 || d > deep ? NONE : costs.table[places[m] * DEPTHS + d];
                cost += own == NONE ? NO_COST : own;
            }
            if (cost < price) {
                b = tryB;
                a = tryA;
                c = tryC;
                price = cost;
            }
        }

        int depthAt(int x, int y) {
            return b + half(a * (x - anchorX) + c * (y - anchorY));
        }

        /** The shift goes towards below, where a division would go towards nought. */
        private static int half(int n) {
            return n >> 1;
        }
    }

    /** THE BODY, told by its three OUTLINES alone. */
    private static final class Body {
        static final int EDGE = 8;
        private static final int OUTLINES = 3;

        /** Row r of OUTLINE o at o times EDGE and r. */
        final int[] rows = new int[OUTLINES * EDGE];

        Body() {
            Arrays.fill(rows, 255);
        }

        boolean hasOutline(int o) {
            return o >= 0 && o < OUTLINES;
        }

        private static boolean onEdge(int n) {
            return n >= 0 && n < EDGE;
        }

        private boolean bit(int o, int r, int n) {
            return (rows[o * EDGE + r] >> n & 1) == 1;
        }

        boolean has(int x, int y, int z) {
            return onEdge(x) && onEdge(y) && onEdge(z) && bit(0, z, y) && bit(1, z, x) && bit(2, y, x);
        }

        int countCubes() {
            int count = 0;
            for (int z = 0; z < EDGE; z++) {
                for (int y = 0; y < EDGE; y++) {
                    if (bit(0, z, y)) {
                        count += Integer.bitCount(rows[EDGE + z] & rows[2 * EDGE + y]);
                    }
                }
            }
            return count;
        }

        int countEmpty(int o) {
            int count = 0;
            for (int r = 0; r < EDGE; r++) {
                for (int n = 0; n < EDGE; n++) {
                    if (bit(o, r, n) && !anyAlong(o, r, n)) {
                        count++;
                    }
                }
            }
            return count;
        }

        private boolean anyAlong(int o, int r, int n) {
            for (int along = 0; along < EDGE; along++) {
                if (isSeenAt(o, r, n, along)) {
                    return true;
                }
            }
            return false;
        }

        private boolean isSeenAt(int o, int r, int n, int along) {
            if (o == 0) {
                return has(along, n, r);
            }
            return o == 1 ? has(n, along, r) : has(n, r, along);
        }
    }
}
