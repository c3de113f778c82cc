import java.util.ArrayDeque;
import java.util.Arrays;
import java.util.HashMap;
import java.util.Map;

/**
 * The document once more, as slow and as near to its words as may be: every answer is worked out
 * from the definitions alone, by other ways than the class under test goes (recursion, texts of
 * steps, whole boards). RunsAgainstModelTest compares both.
 */
final class Model {
    static final int NUMBER = -1;
    static final int MISSING = -2;
    static final int SIZE = -3;
    static final int NONE = -4;
    static final int LOST = -5;

    private static final int[][] NEIGHBOUR = {
        {-1, -1}, {0, -1}, {1, -1}, {-1, 0}, {1, 0}, {-1, 1}, {0, 1}, {1, 1}};

    private static final class State {
        int width = 1;
        int height = 1;
        int[][][] shade = new int[2][10][20];
        boolean[][][] lost = new boolean[2][10][20];
        boolean[][] missing = new boolean[2][10];
        Integer[][] truth = new Integer[10][20];

        State twin() {
            State twin = new State();
            twin.width = width;
            twin.height = height;
            for (int p = 0; p < 2; p++) {
                for (int y = 0; y < 10; y++) {
                    twin.shade[p][y] = shade[p][y].clone();
                    twin.lost[p][y] = lost[p][y].clone();
                }
                twin.missing[p] = missing[p].clone();
            }
            for (int y = 0; y < 10; y++) {
                twin.truth[y] = truth[y].clone();
            }
            return twin;
        }
    }

    private State now = new State();
    private State kept = null;
    private int deep = 4;
    private int hide = 3;
    private int small = 1;
    private int great = 3;
    private int near = 10;
    private final boolean[][][] outlines = new boolean[3][8][8];
    private final Map<String, Object> found = new HashMap<>();

    Model() {
        for (boolean[][] board : outlines) {
            for (boolean[] line : board) {
                Arrays.fill(line, true);
            }
        }
    }

    // ---- pictures

    int size(int width, int height) {
        if (!(1 <= width && width <= 20) || !(1 <= height && height <= 10)) {
            return NUMBER;
        }
        now = new State();
        now.width = width;
        now.height = height;
        found.clear();
        return width * height;
    }

    int shade(int picture, int x, int y, int v) {
        if (!hasRow(picture, y)) {
            return NUMBER;
        }
        if (now.missing[picture][y]) {
            return MISSING;
        }
        if (!square(x, y)) {
            return NUMBER;
        }
        now.shade[picture][y][x] = Byte.toUnsignedInt((byte) v);
        now.lost[picture][y][x] = false;
        found.clear();
        return 1;
    }

    int lose(int picture, int x, int y) {
        if (!hasRow(picture, y)) {
            return NUMBER;
        }
        if (now.missing[picture][y]) {
            return MISSING;
        }
        if (!square(x, y)) {
            return NUMBER;
        }
        boolean was = now.lost[picture][y][x];
        now.lost[picture][y][x] = true;
        found.clear();
        return was ? 0 : 1;
    }

    int row(int picture, int y, boolean missing) {
        if (!hasRow(picture, y)) {
            return NUMBER;
        }
        boolean was = now.missing[picture][y];
        now.missing[picture][y] = missing;
        found.clear();
        return was != missing ? 1 : 0;
    }

    int copy(int picture, int x, int y, int n, int other, int u, int v) {
        if (!hasRow(picture, y) || !hasRow(other, v)) {
            return NUMBER;
        }
        if (now.missing[picture][y] || now.missing[other][v]) {
            return MISSING;
        }
        if (n < 0) {
            return SIZE;
        }
        if (x < 0 || (long) x + n > now.width || u < 0 || (long) u + n > now.width) {
            return NUMBER;
        }
        State before = now.twin();
        for (int i = 0; i < n; i++) {
            now.shade[other][v][u + i] = before.shade[picture][y][x + i];
            now.lost[other][v][u + i] = before.lost[picture][y][x + i];
        }
        found.clear();
        return n;
    }

    int told(int picture, int x, int y) {
        if (!hasRow(picture, y) || !square(x, y)) {
            return NUMBER;
        }
        return lost(picture, x, y) ? LOST : now.shade[picture][y][x];
    }

    int rule(int what, int v) {
        int most = what == 0 ? 8 : what == 1 ? 20 : what == 2 ? 20 : what == 3 ? 40 : what == 4 ? 255 : -1;
        if (v < 0 || v > most) {
            return NUMBER;
        }
        int was = what == 0 ? deep : what == 1 ? hide : what == 2 ? small : what == 3 ? great : near;
        switch (what) {
            case 0 -> deep = v;
            case 1 -> hide = v;
            case 2 -> small = v;
            case 3 -> great = v;
            default -> near = v;
        }
        found.clear();
        return was;
    }

    int many(int what) {
        int count = 0;
        for (int y = 0; y < now.height; y++) {
            for (int x = 0; x < now.width; x++) {
                boolean counts = what == 2 && lost(0, x, y) || what == 3 && lost(1, x, y)
                    || what == 4 && agreed(x, y) >= 0 || what == 5 && segment(x, y) == y * now.width + x
                    || what == 7 && now.truth[y][x] != null;
                count += counts ? 1 : 0;
            }
        }
        return what == 0 ? now.width : what == 1 ? now.height : what == 6 ? cubes()
            : what < 0 || what > 7 ? -1 : count;
    }

    // ---- costs, paths

    int cost(int x, int y, int d) {
        if (!square(x, y) || d < 0 || d > deep) {
            return NUMBER;
        }
        if (!square(x - d, y) || lost(0, x, y) || lost(1, x - d, y)) {
            return NONE;
        }
        int count = 0;
        for (int k = 0; k < 8; k++) {
            if (known(0, x, y, k) && known(1, x - d, y, k) && dark(0, x, y, k) != dark(1, x - d, y, k)) {
                count++;
            }
        }
        return count;
    }

    int path(int y) {
        return hasRow(0, y) ? Integer.parseInt(thePath(y).split(":")[0]) : NUMBER;
    }

    int matched(int x, int y) {
        if (!square(x, y)) {
            return NUMBER;
        }
        int i = 0;
        int j = 0;
        for (char step : thePath(y).split(":")[1].toCharArray()) {
            if (i == x && step != '2') {
                return step == '0' ? i - j : NONE;
            }
            i += step == '2' ? 0 : 1;
            j += step == '1' ? 0 : 1;
        }
        throw new IllegalStateException("the path ends too early");
    }

    int hidden(int picture, int y) {
        if (!hasRow(picture, y)) {
            return NUMBER;
        }
        char step = picture == 0 ? '1' : '2';
        return (int) thePath(y).split(":")[1].chars().filter(c -> c == step).count();
    }

    /** The costs, a colon, and the steps: the best way to each stop, from the front on. */
    private String thePath(int y) {
        return (String) found("path " + y, () -> {
            int w = now.width;
            String[][] best = new String[w + 1][w + 1];
            best[0][0] = "0:";
            for (int i = 0; i <= w; i++) {
                for (int j = 0; j <= w; j++) {
                    if (i > 0 && j > 0 && i - j >= 0 && i - j <= deep && cost(i - 1, y, i - j) >= 0) {
                        best[i][j] = better(best[i][j], best[i - 1][j - 1], cost(i - 1, y, i - j), '0');
                    }
                    if (i > 0) {
                        best[i][j] = better(best[i][j], best[i - 1][j], hide, '1');
                    }
                    if (j > 0) {
                        best[i][j] = better(best[i][j], best[i][j - 1], hide, '2');
                    }
                }
            }
            return best[w][w];
        });
    }

    private static String better(String old, String from, int more, char step) {
        String[] parts = (from + step).split(":");
        int costs = Integer.parseInt(parts[0]) + more;
        String fresh = costs + ":" + parts[1];
        if (old == null) {
            return fresh;
        }
        String[] olds = old.split(":");
        int oldCosts = Integer.parseInt(olds[0]);
        if (costs != oldCosts) {
            return costs < oldCosts ? fresh : old;
        }
        return parts[1].compareTo(olds[1]) < 0 ? fresh : old;
    }

    // ---- sums, depths

    int run(int x, int y, int d, int k) {
        if (!square(x, y) || d < 0 || d > deep || k < 0 || k > 7) {
            return NUMBER;
        }
        return (Integer) found("run " + x + " " + y + " " + d + " " + k, () -> {
            int u = x + NEIGHBOUR[k][0];
            int v = y + NEIGHBOUR[k][1];
            if (!square(u, v)) {
                return vote(x, y, d);
            }
            int least = run(u, v, 0, k);
            for (int e = 1; e <= deep; e++) {
                least = Math.min(least, run(u, v, e, k));
            }
            int best = least + great;
            for (int e = 0; e <= deep; e++) {
                if (Math.abs(e - d) <= 1) {
                    best = Math.min(best, run(u, v, e, k) + (e == d ? 0 : small));
                }
            }
            return vote(x, y, d) + best - least;
        });
    }

    private int vote(int x, int y, int d) {
        if (lost(0, x, y)) {
            return 0;
        }
        if (x - d < 0) {
            return 8;
        }
        return lost(1, x - d, y) ? 0 : cost(x, y, d);
    }

    int sum(int x, int y, int d) {
        if (!square(x, y) || d < 0 || d > deep) {
            return NUMBER;
        }
        int sum = 0;
        for (int k = 0; k < 8; k++) {
            sum += run(x, y, d, k);
        }
        return sum;
    }

    int depth(int picture, int x, int y) {
        if (!hasRow(picture, y) || !square(x, y)) {
            return NUMBER;
        }
        return (Integer) found("depth " + picture + " " + x + " " + y, () -> {
            int best = -1;
            int least = Integer.MAX_VALUE;
            for (int d = 0; d <= deep; d++) {
                int column = picture == 0 ? x : x + d;
                if (column < now.width && sum(column, y, d) < least) {
                    best = d;
                    least = sum(column, y, d);
                }
            }
            return best;
        });
    }

    int agreed(int x, int y) {
        if (!square(x, y)) {
            return NUMBER;
        }
        int d = depth(0, x, y);
        if (lost(0, x, y)) {
            return -10 - 1;
        }
        if (x - d < 0) {
            return -10 - 2;
        }
        if (lost(1, x - d, y)) {
            return -10 - 3;
        }
        return depth(1, x - d, y) != d ? -10 - 4 : d;
    }

    // ---- segments

    int segment(int x, int y) {
        if (!square(x, y)) {
            return NUMBER;
        }
        if (lost(0, x, y)) {
            return LOST;
        }
        boolean[][] members = members(x, y);
        for (int place = 0; ; place++) {
            if (members[place / now.width][place % now.width]) {
                return place;
            }
        }
    }

    int extent(int x, int y) {
        if (!square(x, y)) {
            return NUMBER;
        }
        if (lost(0, x, y)) {
            return LOST;
        }
        int count = 0;
        for (boolean[] line : members(x, y)) {
            for (boolean member : line) {
                count += member ? 1 : 0;
            }
        }
        return count;
    }

    private boolean[][] members(int x, int y) {
        return (boolean[][]) found("members " + x + " " + y, () -> {
            boolean[][] members = new boolean[now.height][now.width];
            ArrayDeque<int[]> open = new ArrayDeque<>();
            members[y][x] = true;
            open.add(new int[] {x, y});
            while (!open.isEmpty()) {
                int[] at = open.remove();
                for (int k : new int[] {1, 3, 4, 6}) {
                    int u = at[0] + NEIGHBOUR[k][0];
                    int v = at[1] + NEIGHBOUR[k][1];
                    if (square(u, v) && !lost(0, u, v) && !members[v][u]
                        && Math.abs(now.shade[0][v][u] - now.shade[0][at[1]][at[0]]) <= near) {
                        members[v][u] = true;
                        open.add(new int[] {u, v});
                    }
                }
            }
            return members;
        });
    }

    int plane(int x, int y, int what) {
        if (!square(x, y) || what < 0 || what > 4) {
            return -1000;
        }
        if (lost(0, x, y)) {
            return -1001;
        }
        int anchor = segment(x, y);
        int[] best = thePlane(x, y, anchor);
        if (what == 4) {
            int d = depthOf(best[0], best[1], best[2], anchor, x, y);
            return d >= 0 && d <= deep ? d : -100 + d;
        }
        return what == 0 ? best[0] : what == 1 ? best[1] + 2 : what == 2 ? best[2] + 2 : best[3];
    }

    private int[] thePlane(int x, int y, int anchor) {
        return (int[]) found("plane " + anchor, () -> {
            int[] best = null;
            for (int b = 0; b <= deep; b++) {
                for (int a = -2; a <= 2; a++) {
                    for (int c = -2; c <= 2; c++) {
                        int costs = costsOf(b, a, c, anchor, members(x, y));
                        if (best == null || costs < best[3]) {
                            best = new int[] {b, a, c, costs};
                        }
                    }
                }
            }
            return best;
        });
    }

    private int costsOf(int b, int a, int c, int anchor, boolean[][] members) {
        int costs = 0;
        for (int y = 0; y < now.height; y++) {
            for (int x = 0; x < now.width; x++) {
                if (members[y][x]) {
                    int own = cost(x, y, depthOf(b, a, c, anchor, x, y));
                    costs += own < 0 ? 9 : own;
                }
            }
        }
        return costs;
    }

    private int depthOf(int b, int a, int c, int anchor, int x, int y) {
        int x0 = anchor % now.width;
        int y0 = anchor / now.width;
        return b + (int) Math.floor((a * (x - x0) + c * (y - y0)) / 2.0);
    }

    // ---- views, scenes

    int view(int k, int x, int y) {
        return k < 0 || k > 4 || !square(x, y) ? NUMBER : theView(k)[y][x];
    }

    int holes(int k) {
        if (k < 0 || k > 4) {
            return NUMBER;
        }
        int count = 0;
        for (int[] line : theView(k)) {
            for (int shade : line) {
                count += shade == NONE ? 1 : 0;
            }
        }
        return count;
    }

    /** Painted from the far ones to the near ones, so that the greatest depth stays. */
    private int[][] theView(int k) {
        return (int[][]) found("view " + k, () -> {
            int[][] board = new int[now.height][now.width];
            for (int[] line : board) {
                Arrays.fill(line, NONE);
            }
            for (int d = 0; d <= 8; d++) {
                for (int y = 0; y < now.height; y++) {
                    for (int x = 0; x < now.width; x++) {
                        if (agreed(x, y) == d) {
                            board[y][x - d * k / 4] = now.shade[0][y][x];
                        }
                    }
                }
            }
            return board;
        });
    }

    int draw(int x, int y, int w, int h, int d, int seed) {
        if (w < 1 || h < 1 || x < 0 || y < 0 || (long) x + w > now.width || (long) y + h > now.height
            || d < 0 || d > 8) {
            return NUMBER;
        }
        for (int j = y; j < y + h; j++) {
            if (now.missing[0][j] || now.missing[1][j]) {
                return MISSING;
            }
        }
        int number = seed;
        for (int j = y; j < y + h; j++) {
            for (int i = x; i < x + w; i++) {
                number = (int) (1103515245L * number + 12345L);
                now.shade[0][j][i] = Math.floorMod(number >> 16, 65536) % 256;
                now.lost[0][j][i] = false;
                now.truth[j][i] = d;
            }
        }
        for (int j = y; j < y + h; j++) {
            for (int i = x; i < x + w; i++) {
                if (i - d >= 0) {
                    now.shade[1][j][i - d] = now.shade[0][j][i];
                    now.lost[1][j][i - d] = false;
                }
            }
        }
        found.clear();
        return w * h;
    }

    int truth(int x, int y) {
        if (!square(x, y)) {
            return NUMBER;
        }
        return now.truth[y][x] == null ? NONE : now.truth[y][x];
    }

    int score(int what) {
        if (what < 0 || what > 3) {
            return NUMBER;
        }
        int count = 0;
        for (int y = 0; y < now.height; y++) {
            for (int x = 0; x < now.width; x++) {
                if (now.truth[y][x] != null) {
                    int truth = now.truth[y][x];
                    int depth = agreed(x, y);
                    boolean counts = what == 0 && depth == truth || what == 1 && depth >= 0 && depth != truth
                        || what == 2 && depth < 0 || what == 3 && matched(x, y) == truth;
                    count += counts ? 1 : 0;
                }
            }
        }
        return count;
    }

    // ---- the body

    int outline(int o, int r, int v) {
        if (o < 0 || o > 2 || r < 0 || r > 7) {
            return NUMBER;
        }
        for (int bit = 0; bit < 8; bit++) {
            outlines[o][r][bit] = Math.floorMod(v >> bit, 2) == 1;
        }
        return cubes();
    }

    boolean cube(int x, int y, int z) {
        return x >= 0 && y >= 0 && z >= 0 && x < 8 && y < 8 && z < 8
            && outlines[0][z][y] && outlines[1][z][x] && outlines[2][y][x];
    }

    private int cubes() {
        int count = 0;
        for (int place = 0; place < 512; place++) {
            count += cube(place / 64, place / 8 % 8, place % 8) ? 1 : 0;
        }
        return count;
    }

    int empty(int o) {
        if (o < 0 || o > 2) {
            return NUMBER;
        }
        boolean[][] seen = new boolean[8][8];
        for (int place = 0; place < 512; place++) {
            int x = place / 64;
            int y = place / 8 % 8;
            int z = place % 8;
            if (cube(x, y, z)) {
                seen[o == 2 ? y : z][o == 0 ? y : x] = true;
            }
        }
        int count = 0;
        for (int r = 0; r < 8; r++) {
            for (int bit = 0; bit < 8; bit++) {
                count += outlines[o][r][bit] && !seen[r][bit] ? 1 : 0;
            }
        }
        return count;
    }

    // ---- kept

    int keep() {
        kept = now.twin();
        return 1;
    }

    int back() {
        if (kept == null) {
            return NONE;
        }
        now = kept.twin();
        found.clear();
        return 1;
    }

    // ---- terms

    private boolean hasRow(int picture, int y) {
        return (picture == 0 || picture == 1) && y >= 0 && y < now.height;
    }

    private boolean square(int x, int y) {
        return x >= 0 && x < now.width && y >= 0 && y < now.height;
    }

    private boolean lost(int picture, int x, int y) {
        return now.missing[picture][y] || now.lost[picture][y][x];
    }

    private boolean known(int picture, int x, int y, int k) {
        int u = x + NEIGHBOUR[k][0];
        int v = y + NEIGHBOUR[k][1];
        return square(u, v) && !lost(picture, u, v) && !lost(picture, x, y);
    }

    private boolean dark(int picture, int x, int y, int k) {
        return now.shade[picture][y + NEIGHBOUR[k][1]][x + NEIGHBOUR[k][0]] < now.shade[picture][y][x];
    }

    private interface Finder {
        Object find();
    }

    private Object found(String key, Finder finder) {
        Object old = found.get(key);
        if (old == null) {
            old = finder.find();
            found.put(key, old);
        }
        return old;
    }
}
