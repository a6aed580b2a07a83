import java.math.BigInteger;
import java.util.ArrayList;
import java.util.HashMap;
import java.util.HashSet;
import java.util.List;
import java.util.Map;
import java.util.Set;

/**
 * The document said once more, as plainly and slowly as can be: squares are found by
 * looking through the list of all of them, maps by going through all maps.
 */
public final class PlainGrove {
    public static final int NONE = -1;

    private static final Map<Integer, List<int[][]>> ALL_SQUARES = new HashMap<>();
    private static final Map<Integer, List<int[]>> ALL_MAPS = new HashMap<>();
    private static final Map<String, Integer> CRITICAL = new HashMap<>();

    private final List<int[][]> grids = new ArrayList<>();
    private String tape = "";

    public PlainGrove() {
    }

    int grids() {
        return grids.size();
    }

    String tape() {
        return tape;
    }

    // ---- what the calls share

    private int[][] at(int grid) {
        if (grid < 0 || grid >= grids.size()) {
            throw new IndexOutOfBoundsException();
        }
        return grids.get(grid);
    }

    private static void line(int[][] g, int line) {
        if (line < 0 || line >= g.length) {
            throw new IndexOutOfBoundsException();
        }
    }

    private static void arg(boolean ok) {
        if (!ok) {
            throw new IllegalArgumentException();
        }
    }

    private static void state(boolean ok) {
        if (!ok) {
            throw new IllegalStateException();
        }
    }

    private static int[][] empty(int n) {
        int[][] g = new int[n][n];
        for (int[] row : g) {
            java.util.Arrays.fill(row, NONE);
        }
        return g;
    }

    private static int[][] copy(int[][] g) {
        int[][] c = new int[g.length][];
        for (int i = 0; i < g.length; i++) {
            c[i] = g[i].clone();
        }
        return c;
    }

    private int add(int[][] g) {
        state(grids.size() < 12);
        grids.add(g);
        return grids.size() - 1;
    }

    private static boolean lawful(int[][] g) {
        int n = g.length;
        for (int r = 0; r < n; r++) {
            for (int c = 0; c < n; c++) {
                for (int i = 0; i < n; i++) {
                    if (g[r][c] != NONE && (i != c && g[r][i] == g[r][c] || i != r && g[i][c] == g[r][c])) {
                        return false;
                    }
                }
            }
        }
        return true;
    }

    private static int empties(int[][] g) {
        int e = 0;
        for (int[] row : g) {
            for (int s : row) {
                e += s == NONE ? 1 : 0;
            }
        }
        return e;
    }

    private static boolean square(int[][] g) {
        return empties(g) == 0;
    }

    private static boolean canPut(int[][] g, int r, int c, int s) {
        if (g[r][c] != NONE) {
            return false;
        }
        for (int i = 0; i < g.length; i++) {
            if (g[r][i] == s || g[i][c] == s) {
                return false;
            }
        }
        return true;
    }

    static List<int[]> maps(int n) {
        return ALL_MAPS.computeIfAbsent(n, k -> {
            List<int[]> all = new ArrayList<>();
            int end = (int) Math.pow(n, n);
            for (int code = 0; code < end; code++) {
                int[] map = new int[n];
                Set<Integer> seen = new HashSet<>();
                int rest = code;
                for (int i = 0; i < n; i++) {
                    map[i] = rest % n;
                    rest /= n;
                    seen.add(map[i]);
                }
                if (seen.size() == n) {
                    all.add(map);
                }
            }
            return all;
        });
    }

    /** All squares of an order, the lowest first. */
    static List<int[][]> squares(int n) {
        List<int[][]> known = ALL_SQUARES.get(n);
        if (known == null) {
            known = new ArrayList<>();
            collect(empty(n), 0, known);
            ALL_SQUARES.put(n, known);
        }
        return known;
    }

    private static void collect(int[][] g, int cell, List<int[][]> into) {
        int n = g.length;
        if (cell == n * n) {
            into.add(copy(g));
            return;
        }
        for (int s = 0; s < n; s++) {
            if (canPut(g, cell / n, cell % n, s)) {
                g[cell / n][cell % n] = s;
                collect(g, cell + 1, into);
                g[cell / n][cell % n] = NONE;
            }
        }
    }

    private static boolean fillsIt(int[][] square, int[][] g) {
        for (int r = 0; r < g.length; r++) {
            for (int c = 0; c < g.length; c++) {
                if (g[r][c] != NONE && g[r][c] != square[r][c]) {
                    return false;
                }
            }
        }
        return true;
    }

    // ---- GRIDS

    public int grid(int order) {
        arg(order >= 2 && order <= 5);
        return add(empty(order));
    }

    public int linear(int order, int a, int b, int d) {
        arg(order >= 2 && order <= 5 && a >= 0 && a <= 4 && b >= 0 && b <= 4 && d >= 0 && d <= 4);
        int[][] g = empty(order);
        for (int r = 0; r < order; r++) {
            for (int c = 0; c < order; c++) {
                g[r][c] = (a * r + b * c + d) % order;
            }
        }
        arg(lawful(g));
        return add(g);
    }

    public int put(int grid, int row, int column, int sign) {
        int[][] g = at(grid);
        line(g, row);
        line(g, column);
        arg(sign >= NONE && sign < g.length);
        int old = g[row][column];
        g[row][column] = sign;
        if (!lawful(g)) {
            g[row][column] = old;
            throw new IllegalStateException();
        }
        return old;
    }

    private static int[] map(int code, int n) {
        for (int[] map : maps(n)) {
            int told = 0;
            for (int i = n - 1; i >= 0; i--) {
                told = 10 * told + map[i];
            }
            if (told == code) {
                return map;
            }
        }
        throw new IllegalArgumentException();
    }

    public int isotope(int grid, int rows, int columns, int signs) {
        int[][] g = at(grid);
        int n = g.length;
        int[] p = map(rows, n);
        int[] q = map(columns, n);
        int[] t = map(signs, n);
        int[][] made = empty(n);
        for (int r = 0; r < n; r++) {
            for (int c = 0; c < n; c++) {
                made[p[r]][q[c]] = g[r][c] == NONE ? NONE : t[g[r][c]];
            }
        }
        return add(made);
    }

    private static int[][] conjugated(int[][] g, int how) {
        String[] orders = {"rcs", "crs", "rsc", "scr", "csr", "src"};
        int[][] made = empty(g.length);
        for (int r = 0; r < g.length; r++) {
            for (int c = 0; c < g.length; c++) {
                if (g[r][c] != NONE) {
                    int[] three = new int[3];
                    for (int i = 0; i < 3; i++) {
                        char which = orders[how].charAt(i);
                        three[i] = which == 'r' ? r : which == 'c' ? c : g[r][c];
                    }
                    made[three[0]][three[1]] = three[2];
                }
            }
        }
        return made;
    }

    public int conjugate(int grid, int how) {
        int[][] g = at(grid);
        arg(how >= 0 && how <= 5);
        return add(conjugated(g, how));
    }

    public int cell(int grid, int row, int column) {
        int[][] g = at(grid);
        line(g, row);
        line(g, column);
        return g[row][column];
    }

    public int of(int grid, int what) {
        int[][] g = at(grid);
        arg(what >= 0 && what <= 2);
        if (what == 0) {
            return g.length;
        }
        if (what == 1) {
            return g.length * g.length - empties(g);
        }
        int dead = 0;
        for (int r = 0; r < g.length; r++) {
            for (int c = 0; c < g.length; c++) {
                dead += g[r][c] == NONE && options(g, r, c) == 0 ? 1 : 0;
            }
        }
        return dead;
    }

    public int distance(int grid, int other) {
        int[][] g = at(grid);
        int[][] h = at(other);
        arg(g.length == h.length);
        int unlike = 0;
        for (int r = 0; r < g.length; r++) {
            for (int c = 0; c < g.length; c++) {
                unlike += g[r][c] != h[r][c] ? 1 : 0;
            }
        }
        return unlike;
    }

    // ---- moves

    private static int turned(int[][] g, int row, int other, int column) {
        List<Integer> columns = new ArrayList<>();
        int at = column;
        do {
            columns.add(at);
            int next = 0;
            while (g[row][next] != g[other][at]) {
                next++;
            }
            at = next;
        } while (at != column);
        for (int c : columns) {
            int kept = g[row][c];
            g[row][c] = g[other][c];
            g[other][c] = kept;
        }
        return columns.size();
    }

    public int turn(int grid, int row, int other, int column) {
        int[][] g = at(grid);
        line(g, row);
        line(g, other);
        line(g, column);
        arg(row != other);
        for (int c = 0; c < g.length; c++) {
            state(g[row][c] != NONE && g[other][c] != NONE);
        }
        return turned(g, row, other, column);
    }

    public int stir(int grid, int seed, int times) {
        int[][] g = at(grid);
        arg(seed >= 0 && times >= 1 && times <= 50);
        state(square(g));
        int n = g.length;
        BigInteger x = BigInteger.valueOf(seed);
        for (int i = 0; i < times; i++) {
            x = x.multiply(BigInteger.valueOf(1103515245)).add(BigInteger.valueOf(12345))
                    .mod(BigInteger.valueOf(2147483648L));
            int q = x.divide(BigInteger.valueOf(65536)).intValueExact();
            int first = q % n;
            int second = (first + 1 + (q / n) % (n - 1)) % n;
            turned(g, first, second, (q / (n * n)) % n);
        }
        return x.intValueExact();
    }

    // ---- filling

    private static int options(int[][] g, int r, int c) {
        int set = 0;
        for (int s = 0; s < g.length; s++) {
            set += canPut(g, r, c, s) ? 1 << s : 0;
        }
        return set;
    }

    public int can(int grid, int row, int column) {
        int[][] g = at(grid);
        line(g, row);
        line(g, column);
        return options(g, row, column);
    }

    public int fills(int grid, int most) {
        int[][] g = at(grid);
        arg(most >= 1 && most <= 1000);
        int found = 0;
        for (int[][] square : squares(g.length)) {
            found += fillsIt(square, g) ? 1 : 0;
        }
        return Math.min(found, most);
    }

    public int fillsAnew(int grid, int most) {
        return fills(grid, most);
    }

    public int fill(int grid) {
        int[][] g = at(grid);
        for (int[][] square : squares(g.length)) {
            if (fillsIt(square, g)) {
                int empty = empties(g);
                grids.set(grid, copy(square));
                return empty;
            }
        }
        throw new IllegalStateException();
    }

    private static int firstForced(int[][] g) {
        int n = g.length;
        for (int cell = 0; cell < n * n; cell++) {
            for (int s = 0; s < n; s++) {
                int r = cell / n;
                int c = cell % n;
                if (canPut(g, r, c, s)) {
                    int inCell = 0;
                    int inRow = 0;
                    int inColumn = 0;
                    for (int i = 0; i < n; i++) {
                        inCell += canPut(g, r, c, i) ? 1 : 0;
                        inRow += canPut(g, r, i, s) ? 1 : 0;
                        inColumn += canPut(g, i, c, s) ? 1 : 0;
                    }
                    if (inCell == 1 || inRow == 1 || inColumn == 1) {
                        return 10 * cell + s;
                    }
                }
            }
        }
        return NONE;
    }

    public int forced(int grid) {
        return firstForced(at(grid));
    }

    public int logic(int grid) {
        int[][] g = copy(at(grid));
        int filled = 0;
        for (int move = firstForced(g); move != NONE; move = firstForced(g)) {
            g[move / 10 / g.length][move / 10 % g.length] = move % 10;
            filled++;
        }
        return filled;
    }

    public int critical(int grid) {
        int[][] g = at(grid);
        state(square(g) && g.length < 5);
        return CRITICAL.computeIfAbsent(java.util.Arrays.deepToString(g), k -> fewest(g));
    }

    private static int fewest(int[][] g) {
        int n = g.length;
        for (int size = 0; true; size++) {
            for (int set = 0; set < 1 << n * n; set++) {
                if (Integer.bitCount(set) == size) {
                    int[][] part = empty(n);
                    for (int cell = 0; cell < n * n; cell++) {
                        if ((set >> cell & 1) == 1) {
                            part[cell / n][cell % n] = g[cell / n][cell % n];
                        }
                    }
                    int found = 0;
                    for (int[][] square : squares(n)) {
                        found += fillsIt(square, part) ? 1 : 0;
                        if (found > 1) {
                            break;
                        }
                    }
                    if (found == 1) {
                        return size;
                    }
                }
            }
        }
    }

    // ---- laws

    public int type(long characters, int n) {
        arg(n >= 1 && n <= 8);
        StringBuilder typed = new StringBuilder();
        for (int i = 0; i < n; i++) {
            char ch = (char) (characters >> 8 * i & 255);
            arg("xyz()=".indexOf(ch) >= 0);
            typed.append(ch);
        }
        state(tape.length() + n <= 40);
        tape += typed;
        return tape.length();
    }

    public int wipe() {
        int had = tape.length();
        tape = "";
        return had;
    }

    /** Reads an identity from its beginning, remembering where it cannot go on. */
    private static final class Reader {
        private final String text;
        private int next = 0;

        Reader(String text) {
            this.text = text;
        }

        int fault() {
            try {
                word();
                sign("=");
                word();
                return next == text.length() ? NONE : next;
            } catch (IllegalArgumentException stop) {
                return next;
            }
        }

        private void word() {
            if (sign("xyz(") == '(') {
                word();
                word();
                sign(")");
            }
        }

        private char sign(String allowed) {
            if (next >= text.length() || allowed.indexOf(text.charAt(next)) < 0) {
                throw new IllegalArgumentException();
            }
            return text.charAt(next++);
        }
    }

    public int fault() {
        return new Reader(tape).fault();
    }

    private static int value(int[][] g, String word, int[] xyz) {
        if (word.length() == 1) {
            return xyz[word.charAt(0) - 'x'];
        }
        String inner = word.substring(1, word.length() - 1);
        int depth = 0;
        int split = 0;
        do {
            depth += inner.charAt(split) == '(' ? 1 : inner.charAt(split) == ')' ? -1 : 0;
            split++;
        } while (depth != 0);
        return g[value(g, inner.substring(0, split), xyz)][value(g, inner.substring(split), xyz)];
    }

    public int breaks(int grid) {
        int[][] g = at(grid);
        arg(fault() == NONE);
        state(square(g));
        int n = g.length;
        String[] words = tape.split("=");
        for (int told = 0; told < n * n * n; told++) {
            int[] xyz = {told % n, told / n % n, told / n / n};
            boolean counts = true;
            for (int i = 0; i < 3; i++) {
                counts &= xyz[i] == 0 || tape.indexOf((char) ('x' + i)) >= 0;
            }
            if (counts && value(g, words[0], xyz) != value(g, words[1], xyz)) {
                return told;
            }
        }
        return NONE;
    }

    public int unit(int grid) {
        int[][] g = at(grid);
        state(square(g));
        for (int e = 0; e < g.length; e++) {
            boolean is = true;
            for (int a = 0; a < g.length; a++) {
                is &= g[e][a] == a && g[a][e] == a;
            }
            if (is) {
                return e;
            }
        }
        return NONE;
    }

    public int nucleus(int grid, int which) {
        int[][] g = at(grid);
        arg(which >= 0 && which <= 3);
        state(square(g));
        int set = 0;
        for (int a = 0; a < g.length; a++) {
            boolean[] in = {true, true, true, true};
            for (int b = 0; b < g.length; b++) {
                for (int c = 0; c < g.length; c++) {
                    in[0] &= g[g[a][b]][c] == g[a][g[b][c]];
                    in[1] &= g[g[b][a]][c] == g[b][g[a][c]];
                    in[2] &= g[g[b][c]][a] == g[b][g[c][a]];
                }
                in[3] &= g[a][b] == g[b][a];
            }
            in[3] &= in[0] && in[1] && in[2];
            set += in[which] ? 1 << a : 0;
        }
        return set;
    }

    private static boolean isClosed(int[][] g, int set) {
        for (int a = 0; a < g.length; a++) {
            for (int b = 0; b < g.length; b++) {
                if ((set >> a & 1) == 1 && (set >> b & 1) == 1 && (set >> g[a][b] & 1) == 0) {
                    return false;
                }
            }
        }
        return true;
    }

    /** The least one is what all closed sets that have the set have together. */
    public int closed(int grid, int set) {
        int[][] g = at(grid);
        arg(set > 0 && set < 1 << g.length);
        state(square(g));
        int least = (1 << g.length) - 1;
        for (int s = 1; s < 1 << g.length; s++) {
            if ((s & set) == set && isClosed(g, s)) {
                least &= s;
            }
        }
        return least;
    }

    public int count(int grid, int what) {
        int[][] g = at(grid);
        arg(what >= 0 && what <= 4);
        state(square(g));
        int n = g.length;
        int found = 0;
        if (what == 0) {
            for (int s = 1; s < 1 << n; s++) {
                found += isClosed(g, s) ? 1 : 0;
            }
            return found;
        }
        if (what == 1) {
            for (int[] f : maps(n)) {
                boolean keeps = true;
                for (int a = 0; a < n; a++) {
                    for (int b = 0; b < n; b++) {
                        keeps &= f[g[a][b]] == g[f[a]][f[b]];
                    }
                }
                found += keeps ? 1 : 0;
            }
            return found;
        }
        return group(g, what != 3, what != 2);
    }

    private static int group(int[][] g, boolean rows, boolean columns) {
        int n = g.length;
        List<List<Integer>> made = new ArrayList<>();
        for (int a = 0; a < n; a++) {
            List<Integer> row = new ArrayList<>();
            List<Integer> column = new ArrayList<>();
            for (int b = 0; b < n; b++) {
                row.add(g[a][b]);
                column.add(g[b][a]);
            }
            if (rows) {
                made.add(row);
            }
            if (columns) {
                made.add(column);
            }
        }
        List<List<Integer>> makers = new ArrayList<>(made);
        Set<List<Integer>> all = new HashSet<>(made);
        List<List<Integer>> queue = new ArrayList<>(all);
        for (int i = 0; i < queue.size(); i++) {
            for (List<Integer> maker : makers) {
                List<Integer> both = new ArrayList<>();
                for (int b = 0; b < n; b++) {
                    both.add(maker.get(queue.get(i).get(b)));
                }
                if (all.add(both)) {
                    queue.add(both);
                }
            }
        }
        return all.size();
    }

    public int isotopies(int grid, int other) {
        int[][] g = at(grid);
        int[][] h = at(other);
        state(square(g) && square(h));
        if (g.length != h.length) {
            return 0;
        }
        int found = 0;
        for (int[] p : maps(g.length)) {
            for (int[] q : maps(g.length)) {
                found += isotopic(g, h, p, q) ? 1 : 0;
            }
        }
        return found;
    }

    private static boolean isotopic(int[][] g, int[][] h, int[] p, int[] q) {
        int[] t = new int[g.length];
        for (int c = 0; c < g.length; c++) {
            t[g[0][c]] = h[p[0]][q[c]];
        }
        for (int r = 0; r < g.length; r++) {
            for (int c = 0; c < g.length; c++) {
                if (h[p[r]][q[c]] != t[g[r][c]]) {
                    return false;
                }
            }
        }
        return true;
    }

    // ---- mates

    public int transversals(int grid) {
        int[][] g = at(grid);
        state(square(g));
        int found = 0;
        for (int[] p : maps(g.length)) {
            Set<Integer> signs = new HashSet<>();
            for (int r = 0; r < g.length; r++) {
                signs.add(g[r][p[r]]);
            }
            found += signs.size() == g.length ? 1 : 0;
        }
        return found;
    }

    private static boolean unlikePairs(int[][] g, int[][] h) {
        int seen = 0;
        for (int r = 0; r < g.length; r++) {
            for (int c = 0; c < g.length; c++) {
                int bit = 1 << g[r][c] * g.length + h[r][c];
                if ((seen & bit) != 0) {
                    return false;
                }
                seen |= bit;
            }
        }
        return true;
    }

    public int mates(int grid) {
        int[][] g = at(grid);
        state(square(g));
        int found = 0;
        for (int[][] h : squares(g.length)) {
            boolean inOrder = true;
            for (int c = 0; c < g.length; c++) {
                inOrder &= h[0][c] == c;
            }
            found += inOrder && unlikePairs(g, h) ? 1 : 0;
        }
        return found;
    }

    public int mate(int grid) {
        int[][] g = at(grid);
        state(square(g));
        for (int[][] h : squares(g.length)) {
            if (unlikePairs(g, h)) {
                return add(copy(h));
            }
        }
        throw new IllegalStateException();
    }

    public boolean areMates(int grid, int other) {
        int[][] g = at(grid);
        int[][] h = at(other);
        state(square(g) && square(h));
        return g.length == h.length && unlikePairs(g, h);
    }

    public int parity(int grid, int which) {
        int[][] g = at(grid);
        arg(which >= 0 && which <= 2);
        state(square(g));
        int[][] asked = conjugated(g, which == 0 ? 0 : which == 1 ? 1 : 5);
        int pairs = 0;
        for (int[] row : asked) {
            for (int i = 0; i < row.length; i++) {
                for (int j = i + 1; j < row.length; j++) {
                    pairs += row[j] < row[i] ? 1 : 0;
                }
            }
        }
        return pairs % 2;
    }

    // ---- the game

    private static int winning(int[][] g) {
        int n = g.length;
        for (int move = 0; move < 10 * n * n; move++) {
            int r = move / 10 / n;
            int c = move / 10 % n;
            int s = move % 10;
            if (s < n && canPut(g, r, c, s)) {
                g[r][c] = s;
                int answer = winning(g);
                g[r][c] = NONE;
                if (answer == NONE) {
                    return move;
                }
            }
        }
        return NONE;
    }

    public int wins(int grid) {
        int[][] g = at(grid);
        state(empties(g) <= 6);
        return winning(copy(g));
    }
}
