import java.util.HashSet;
import java.util.Set;

/** Each sentence of the promises 1 to 9 that names a boundary case. */
public final class GridSentencesTest extends Scene {
    private static final int[] BEYOND_ALL = {Integer.MIN_VALUE, Integer.MAX_VALUE, -1000, 1000};

    public static void main(String[] args) {
        runAll(GridSentencesTest.class);
    }

    // ---- 1

    @Sentence("1: Creates a grove without GRIDS")
    void noGridsAtFirst() {
        range(() -> g.of(0, 0));
        range(() -> g.cell(0, 0, 0));
        due("the first one has the number 0", 0, () -> g.grid(2));
    }

    @Sentence("1: the tape is empty")
    void noCharactersAtFirst() {
        due(0, () -> g.fault());
        due(0, () -> g.wipe());
        due("the first character is one", 1, () -> g.type('x', 1));
    }

    @Sentence("1: Creates a grove: one of its own, whatever other ones have")
    void grovesOfTheirOwn() {
        g.grid(3);
        type("x=y");
        Quasigrove other = new Quasigrove();
        range(() -> other.of(0, 0));
        due(0, () -> other.wipe());
        due(0, () -> other.linear(4, 1, 1, 0));
        due("the first one keeps its grid", ".../.../...", () -> shown(0));
        due("the first one keeps its tape", 3, () -> g.wipe());
    }

    // ---- 2

    @Sentence("2: order: 2 to 5")
    void ordersOfGrids() {
        for (int n : ORDERS) {
            due(n - 2, () -> g.grid(n));
            due(n, () -> g.of(n - 2, 0));
        }
        for (int wrong : new int[] {1, 6, 0, -1, -2, -5, 7, 258}) {
            argument("the order " + wrong, () -> g.grid(wrong));
        }
        for (int wrong : BEYOND_ALL) {
            argument("the order " + wrong, () -> g.grid(wrong));
        }
        due("none was made by them", 4, () -> g.grid(2));
    }

    @Sentence("2: Makes an empty GRID")
    void emptyGrids() {
        for (int n : ORDERS) {
            due(n - 2, () -> g.grid(n));
            due(blank(n), () -> shown(n - 2));
            due("no cell has a sign", 0, () -> g.of(n - 2, 1));
            for (int cell = 0; cell < n * n; cell++) {
                int at = cell;
                due("each sign can come", (1 << n) - 1, () -> g.can(n - 2, at / n, at % n));
            }
        }
    }

    @Sentence("2: Throws IllegalStateException if there are 12")
    void gridsTwelve() {
        for (int number = 0; number < 12; number++) {
            int next = number;
            due(next, () -> g.grid(5));
        }
        state(() -> g.grid(5));
        state(() -> g.grid(2));
        due("the first one is still there", blank(5), () -> shown(0));
    }

    // ---- 3

    @Sentence("3: order: 2 to 5")
    void ordersOfLinear() {
        for (int n : ORDERS) {
            due(n - 2, () -> g.linear(n, 1, 1, 0));
            due(n, () -> g.of(n - 2, 0));
        }
        for (int wrong : new int[] {1, 6, 0, -1, -3, 7}) {
            argument("the order " + wrong, () -> g.linear(wrong, 1, 1, 0));
        }
        for (int wrong : BEYOND_ALL) {
            argument("the order " + wrong, () -> g.linear(wrong, 1, 1, 0));
        }
    }

    @Sentence("3: a: 0 to 4")
    void firstFactor() {
        due("4", 0, () -> g.linear(3, 4, 1, 0));
        due("012/120/201", () -> shown(0));
        argument("5, which is 2 by 3", () -> g.linear(3, 5, 1, 0));
        argument("-1, which is 2 by 3", () -> g.linear(3, -1, 1, 0));
        for (int wrong : BEYOND_ALL) {
            argument("" + wrong, () -> g.linear(3, wrong, 1, 0));
        }
    }

    @Sentence("3: b: 0 to 4")
    void secondFactor() {
        due("4", 0, () -> g.linear(3, 1, 4, 0));
        due("012/120/201", () -> shown(0));
        argument("5, which is 2 by 3", () -> g.linear(3, 1, 5, 0));
        argument("-1, which is 2 by 3", () -> g.linear(3, 1, -1, 0));
        for (int wrong : BEYOND_ALL) {
            argument("" + wrong, () -> g.linear(3, 1, wrong, 0));
        }
    }

    @Sentence("3: d: 0 to 4")
    void summand() {
        due("0", 0, () -> g.linear(2, 1, 1, 0));
        due("01/10", () -> shown(0));
        due("4", 1, () -> g.linear(3, 1, 1, 4));
        due("120/201/012", () -> shown(1));
        argument("5", () -> g.linear(3, 1, 1, 5));
        argument("-1", () -> g.linear(3, 1, 1, -1));
        for (int wrong : BEYOND_ALL) {
            argument("" + wrong, () -> g.linear(3, 1, 1, wrong));
        }
    }

    @Sentence("3: Throws IllegalArgumentException if it would be no SQUARE")
    void noSquares() {
        for (int n : ORDERS) {
            for (int a = 0; a <= 4; a++) {
                for (int b = 0; b <= 4; b++) {
                    fresh();
                    int x = a;
                    int y = b;
                    boolean square = isPrimeTo(a, n) && isPrimeTo(b, n);
                    due(n + " " + a + " " + b, square ? 0 : "throws.IllegalArgumentException",
                            () -> g.linear(n, x, y, 0));
                    due("so many grids", square ? 1 : 0, () -> g.grid(2));
                }
            }
        }
    }

    private static boolean isPrimeTo(int factor, int order) {
        switch (order) {
            case 2:
            case 4:
                return factor % 2 == 1;
            default:
                return factor % order != 0;
        }
    }

    @Sentence("3: the remainder of a times r, b times c, and d, together, by the ORDER")
    void remainders() {
        due("the largest sum, 4 times 4 and 4 times 4 and 4", 0, () -> g.linear(5, 4, 4, 4));
        due("43210/32104/21043/10432/04321", () -> shown(0));
        due("a is of rows, b of columns", 1, () -> g.linear(5, 1, 2, 3));
        due("30241/41302/02413/13024/24130", () -> shown(1));
        due(2, () -> g.linear(4, 3, 1, 4));
        due("0123/3012/2301/1230", () -> shown(2));
        due(3, () -> g.linear(2, 3, 1, 3));
        due("10/01", () -> shown(3));
    }

    @Sentence("3: Throws IllegalStateException if there are 12")
    void linearTwelve() {
        for (int number = 0; number < 12; number++) {
            int next = number;
            due(next, () -> g.linear(5, 1, 1, 0));
        }
        state(() -> g.linear(5, 1, 1, 0));
        state(() -> g.linear(2, 1, 1, 0));
    }

    // ---- 4

    @Sentence("4: sign: 0 to one less than the ORDER, or NONE")
    void signsOfPut() {
        for (int n : ORDERS) {
            int grid = g.grid(n);
            due("0", -1, () -> g.put(grid, 0, 0, 0));
            due("one less than the order", -1, () -> g.put(grid, n - 1, n - 1, n - 1));
            due("NONE", -1, () -> g.put(grid, 0, n - 1, Quasigrove.NONE));
            argument("the order", () -> g.put(grid, 0, n - 1, n));
            argument("5", () -> g.put(grid, 0, n - 1, 5));
            argument("-2", () -> g.put(grid, 0, n - 1, -2));
            argument("the order, over a sign", () -> g.put(grid, 0, 0, n));
            argument("-2, over a sign", () -> g.put(grid, 0, 0, -2));
            for (int wrong : new int[] {Integer.MIN_VALUE, Integer.MAX_VALUE, 32, 31, -32, 256}) {
                argument("" + wrong, () -> g.put(grid, 0, n - 1, wrong));
            }
        }
    }

    @Sentence("4: Puts a SIGN into a cell, whatever was there")
    void putOver() {
        madeOf("012/.../...");
        due("a sign that is elsewhere", "throws.IllegalStateException", () -> g.put(0, 0, 0, 1));
        due("empties one", 1, () -> g.put(0, 0, 1, -1));
        due("over another sign", 0, () -> g.put(0, 0, 0, 1));
        due("1.2/.../...", () -> shown(0));
        due("two cells have a sign", 2, () -> g.of(0, 1));
        due("what was there can come to the row", 1, () -> g.can(0, 0, 1));
        due("and to the column", 5, () -> g.can(0, 2, 0));
    }

    @Sentence("4: Puts a SIGN into a cell, whatever was there: the same SIGN too")
    void putTheSame() {
        madeOf("0123/1032/2301/3210");
        for (int cell = 0; cell < 16; cell++) {
            int row = cell / 4;
            int column = cell % 4;
            int sign = g.cell(0, row, column);
            due(sign, () -> g.put(0, row, column, sign));
        }
        due("0123/1032/2301/3210", () -> shown(0));
        due(16, () -> g.of(0, 1));
    }

    @Sentence("4: or empties it")
    void putEmpties() {
        madeOf("01/10");
        for (int cell = 0; cell < 4; cell++) {
            int row = cell / 2;
            int column = cell % 2;
            int left = 3 - cell;
            due((row + column) % 2, () -> g.put(0, row, column, Quasigrove.NONE));
            due(left, () -> g.of(0, 1));
        }
        due("../..", () -> shown(0));
        for (int cell = 0; cell < 4; cell++) {
            int at = cell;
            due("each sign can come again", 3, () -> g.can(0, at / 2, at % 2));
        }
    }

    @Sentence("4: empties it, where other cells of the row and the column are empty too")
    void putEmptiesAmongEmptyOnes() {
        madeOf("0../.../...");
        due(0, () -> g.put(0, 0, 0, Quasigrove.NONE));
        due(-1, () -> g.put(0, 0, 0, Quasigrove.NONE));
        due(-1, () -> g.put(0, 2, 2, Quasigrove.NONE));
        due(".../.../...", () -> shown(0));
        due(0, () -> g.of(0, 1));
    }

    @Sentence("4: Returns what was there; NONE if it was empty")
    void putReturns() {
        g.grid(5);
        int[] signs = {4, 0, Quasigrove.NONE, Quasigrove.NONE, 3, 3, 0, 4};
        int before = Quasigrove.NONE;
        for (int sign : signs) {
            int was = before;
            due(was, () -> g.put(0, 4, 4, sign));
            due(sign, () -> g.cell(0, 4, 4));
            before = sign;
        }
    }

    @Sentence("4: Throws IllegalStateException if another cell of the row or the column has it: whichever cell of both")
    void putAgainstEachCellOfTheLines() {
        for (int n : ORDERS) {
            for (int i = 0; i < n * n; i++) {
                for (int j = 0; j < n * n; j++) {
                    boolean inLine = i != j && (i / n == j / n || i % n == j % n);
                    fresh();
                    g.grid(n);
                    int first = i;
                    int second = j;
                    g.put(0, i / n, i % n, n - 1);
                    due(i + " and " + j, inLine ? "throws.IllegalStateException" : i == j ? n - 1 : -1,
                            () -> g.put(0, second / n, second % n, n - 1));
                    due(n - 1, () -> g.cell(0, first / n, first % n));
                    due(inLine ? -1 : n - 1, () -> g.cell(0, second / n, second % n));
                }
            }
        }
    }

    @Sentence("4: Throws IllegalStateException if another cell has it: over a SIGN, which stays")
    void putAgainstOverASign() {
        madeOf("01./2../...");
        state("of the row", () -> g.put(0, 0, 0, 1));
        state("of the column", () -> g.put(0, 0, 0, 2));
        due("01./2../...", () -> shown(0));
        due("what the row can take stays", 4, () -> g.can(0, 0, 2));
    }

    @Sentence("4: Throws IllegalStateException if another cell of the row or the column has it: no longer when it went")
    void putWhenItWent() {
        madeOf("01./2../...");
        g.put(0, 0, 1, Quasigrove.NONE);
        due(0, () -> g.put(0, 0, 0, 1));
        g.put(0, 1, 0, 0);
        due(1, () -> g.put(0, 0, 0, 2));
        due("2../0../...", () -> shown(0));
    }

    @Sentence("4: Throws IndexOutOfBoundsException if there is no such row or column")
    void putOutside() {
        for (int n : ORDERS) {
            int grid = g.grid(n);
            for (int wrong : new int[] {-1, n, Integer.MIN_VALUE, Integer.MAX_VALUE}) {
                range(() -> g.put(grid, wrong, 0, 0));
                range(() -> g.put(grid, 0, wrong, 0));
                range(() -> g.put(grid, wrong, wrong, Quasigrove.NONE));
            }
            due(blank(n), () -> shown(grid));
        }
    }

    // ---- 5

    /** In a grove of 12 grids a map is told from what is none by the exception. */
    private void groveOfTwelve(int order) {
        fresh();
        g.grid(order);
        Groves.makeUpTo(g, 12);
    }

    private static Set<Integer> codes(int n) {
        Set<Integer> codes = new HashSet<>();
        for (int[] map : PlainGrove.maps(n)) {
            int code = 0;
            for (int i = n - 1; i >= 0; i--) {
                code = 10 * code + map[i];
            }
            codes.add(code);
        }
        return codes;
    }

    @Sentence("MAP: Its code is what 0 becomes, 10 times what 1 becomes, and so on; no other number is a code of it")
    void allNumbersAsCodes() {
        for (int n : ORDERS) {
            Set<Integer> codes = codes(n);
            int calls = 512;
            String id = "43210".substring(5 - n);
            int identity = Integer.parseInt(id);
            for (int code = -120; code < (n == 5 ? 55_555 : 12_000); code++) {
                if (calls > 480) {
                    groveOfTwelve(n);
                    calls = 30;
                }
                int number = code;
                String want = codes.contains(code) ? "throws.IllegalStateException" : "throws.IllegalArgumentException";
                due("rows " + code + " of " + n, want, () -> g.isotope(0, number, identity, identity));
                due("columns " + code + " of " + n, want, () -> g.isotope(0, identity, number, identity));
                due("signs " + code + " of " + n, want, () -> g.isotope(0, identity, identity, number));
                calls += 3;
            }
        }
    }

    @Sentence("MAP: no other number is a code of it: with digits beyond those of the ORDER")
    void longNumbersAsCodes() {
        for (int n : ORDERS) {
            fresh();
            g.grid(n);
            int identity = Integer.parseInt("43210".substring(5 - n));
            int power = (int) Math.pow(10, n);
            int[] wrong = {identity + power, identity + 2 * power, identity + 1_000_000_000, -identity,
                identity - power, Integer.MAX_VALUE, Integer.MIN_VALUE, -1, 2_000_000_000 + identity};
            for (int code : wrong) {
                argument(code + " of " + n, () -> g.isotope(0, code, identity, identity));
                argument(code + " of " + n, () -> g.isotope(0, identity, code, identity));
                argument(code + " of " + n, () -> g.isotope(0, identity, identity, code));
            }
            due("nothing was made", 1, () -> g.isotope(0, identity, identity, identity));
        }
    }

    @Sentence("MAP: brings each of 0 to n less 1 to one of these: a MAP of another ORDER is none of this one")
    void mapsOfOtherOrders() {
        int[] identities = {10, 210, 3210, 43210};
        for (int n : ORDERS) {
            int grid = g.grid(n);
            for (int other : ORDERS) {
                int code = identities[other - 2];
                if (other != n) {
                    argument(() -> g.isotope(grid, code, code, code));
                }
            }
        }
    }

    @Sentence("MAP: no two to the same")
    void mapsWithTheSameTwice() {
        g.grid(5);
        for (int wrong : new int[] {43211, 43200, 3210, 0, 44210, 11111, 40210}) {
            argument(() -> g.isotope(0, wrong, 43210, 43210));
            argument(() -> g.isotope(0, 43210, wrong, 43210));
            argument(() -> g.isotope(0, 43210, 43210, wrong));
        }
    }

    @Sentence("ISOTOPY: the cell in the row and column that its row and column become has the SIGN that its SIGN becomes")
    void isotopeGoesForward() {
        // 0 becomes 1, 1 becomes 2, 2 becomes 3, 3 becomes 0: the other way round would be 2103
        madeOf("0.../..../..../...3");
        due(1, () -> g.isotope(0, 321, 3210, 3210));
        due("...3/0.../..../....", () -> shown(1));
        due(2, () -> g.isotope(0, 3210, 321, 3210));
        due(".0../..../..../3...", () -> shown(2));
        due(3, () -> g.isotope(0, 3210, 3210, 321));
        due("1.../..../..../...0", () -> shown(3));
        due(4, () -> g.isotope(0, 2103, 321, 1230));
        due("..../..../1.../.0..", () -> shown(4));
    }

    @Sentence("ISOTOPY: empty cells come to empty ones")
    void isotopeOfEmptyCells() {
        for (int n : ORDERS) {
            int grid = g.grid(n);
            int turned = Integer.parseInt("01234".substring(0, n));
            int made = g.isotope(grid, turned, turned, turned);
            due(blank(n), () -> shown(made));
            due(0, () -> g.of(made, 1));
        }
        int one = madeOf("012/1.0/201");
        int other = g.isotope(one, 12, 12, 12);
        due("one empty cell", "120/2.1/012", () -> shown(other));
        due(8, () -> g.of(other, 1));
    }

    @Sentence("5: Makes a GRID by an ISOTOPY: by MAPS that leave all as it is the same one")
    void isotopeThatLeavesAll() {
        int[] identities = {10, 210, 3210, 43210};
        for (int n : ORDERS) {
            int square = madeOf(String.join("/", SQUARES[n]));
            int same = g.isotope(square, identities[n - 2], identities[n - 2], identities[n - 2]);
            due(String.join("/", SQUARES[n]), () -> shown(same));
            due(0, () -> g.distance(square, same));
        }
    }

    @Sentence("5: Throws IllegalStateException if there are 12")
    void isotopeTwelve() {
        madeOf("01/10");
        for (int number = 1; number < 12; number++) {
            int next = number;
            due(next, () -> g.isotope(next - 1, 1, 10, 10));
        }
        due("the last one", "10/01", () -> shown(11));
        state(() -> g.isotope(11, 1, 10, 10));
        due("01/10", () -> shown(0));
    }

    // ---- 6

    @Sentence("6: how: 0 to 5")
    void numbersOfConjugates() {
        madeOf("012/.../...");
        String[] due = {"012/.../...", "0../1../2..", "012/.../...", "0../.0./..0", "0../.0./..0", "0../1../2.."};
        for (int k = 0; k < 6; k++) {
            int how = k;
            due(1 + k, () -> g.conjugate(0, how));
            due(due[k], () -> shown(1 + how));
        }
        for (int wrong : new int[] {-1, 6, 7, Integer.MIN_VALUE, Integer.MAX_VALUE}) {
            argument(() -> g.conjugate(0, wrong));
        }
    }

    @Sentence("CONJUGATE: for each cell that has a SIGN: the SIGN of the last in the row of the first and the column of the second")
    void conjugatesOfOneCell() {
        // the row 1, the column 4, the sign 2
        int[][] due = {{1, 4, 2}, {4, 1, 2}, {1, 2, 4}, {2, 4, 1}, {4, 2, 1}, {2, 1, 4}};
        for (int k = 0; k < 6; k++) {
            fresh();
            g.grid(5);
            g.put(0, 1, 4, 2);
            int how = k;
            due(1, () -> g.conjugate(0, how));
            due(how + ": the sign", due[k][2], () -> g.cell(1, due[how][0], due[how][1]));
            due(how + ": All others of its cells are empty", 1, () -> g.of(1, 1));
        }
    }

    @Sentence("CONJUGATE: All others of its cells are empty: of an empty GRID all, of a SQUARE none")
    void conjugatesOfEmptyAndFull() {
        for (int n : ORDERS) {
            fresh();
            g.grid(n);
            madeOf(String.join("/", SQUARES[n]));
            for (int k = 0; k < 5; k++) {
                int empty = g.conjugate(0, k);
                due(blank(n), () -> shown(empty));
                int square = g.conjugate(1, k + 1);
                due(n * n, () -> g.of(square, 1));
                due("it is a square", true, () -> g.unit(square) >= -1);
            }
        }
    }

    @Sentence("CONJUGATE: done again the other way round it is the GRID again")
    void conjugatesBack() {
        int[] back = {0, 1, 2, 3, 5, 4};
        for (int n : ORDERS) {
            for (int k = 0; k < 6; k++) {
                fresh();
                madeOf(String.join("/", SQUARES[n]));
                g.put(0, 0, n - 1, Quasigrove.NONE);
                g.conjugate(0, k);
                g.conjugate(1, back[k]);
                due(n + " " + k, 0, () -> g.distance(0, 2));
            }
        }
    }

    @Sentence("6: Throws IllegalStateException if there are 12")
    void conjugateTwelve() {
        g.grid(5);
        for (int number = 1; number < 12; number++) {
            int next = number;
            due(next, () -> g.conjugate(0, 5));
        }
        state(() -> g.conjugate(0, 5));
        state(() -> g.conjugate(11, 0));
    }

    // ---- 7

    @Sentence("7: Returns the SIGN; NONE if it is empty")
    void cells() {
        for (int n : ORDERS) {
            int grid = g.grid(n);
            due("empty", -1, () -> g.cell(grid, n - 1, n - 1));
            g.put(grid, n - 1, n - 1, 0);
            due("the sign 0 is no empty cell", 0, () -> g.cell(grid, n - 1, n - 1));
            g.put(grid, n - 1, n - 1, n - 1);
            due("the highest sign", n - 1, () -> g.cell(grid, n - 1, n - 1));
            g.put(grid, n - 1, n - 1, -1);
            due("empty again", -1, () -> g.cell(grid, n - 1, n - 1));
            due("the others too", -1, () -> g.cell(grid, 0, 0));
        }
    }

    @Sentence("7: Throws IndexOutOfBoundsException if there is no such row or column")
    void cellsOutside() {
        for (int n : ORDERS) {
            int grid = g.linear(n, 1, 1, 0);
            for (int wrong : new int[] {-1, n, Integer.MIN_VALUE, Integer.MAX_VALUE}) {
                range(() -> g.cell(grid, wrong, 0));
                range(() -> g.cell(grid, 0, wrong));
            }
        }
    }

    // ---- 8

    @Sentence("8: what: 0 its ORDER, 1 .., 2 ..: IllegalArgumentException if what is out of range")
    void whatIsTold() {
        madeOf("01./..2/...");
        due(3, () -> g.of(0, 0));
        due(3, () -> g.of(0, 1));
        due(1, () -> g.of(0, 2));
        for (int wrong : new int[] {-1, 3, 4, Integer.MIN_VALUE, Integer.MAX_VALUE}) {
            argument(() -> g.of(0, wrong));
        }
    }

    @Sentence("8: 1 how many cells have a SIGN: 0 of an empty GRID, all of a SQUARE")
    void signsToldOfEmptyAndFull() {
        for (int n : ORDERS) {
            int grid = g.grid(n);
            due(0, () -> g.of(grid, 1));
            due(0, () -> g.fill(grid) - n * n);
            due(n * n, () -> g.of(grid, 1));
            g.put(grid, n - 1, n - 1, -1);
            due(n * n - 1, () -> g.of(grid, 1));
        }
    }

    @Sentence("8: 2 how many empty cells there are into which no SIGN can be put: none of an empty GRID or a SQUARE")
    void deadCellsOfEmptyAndFull() {
        for (int n : ORDERS) {
            int grid = g.grid(n);
            due("empty", 0, () -> g.of(grid, 2));
            g.fill(grid);
            due("a cell that has a sign does not count", 0, () -> g.of(grid, 2));
        }
    }

    @Sentence("8: 2 how many empty cells there are into which no SIGN can be put: each of them")
    void deadCellsAll() {
        madeOf("0./.1");
        due(2, () -> g.of(0, 2));
        madeOf("0../.1./..2");
        due("one sign can be put into each", 0, () -> g.of(1, 2));
        madeOf("01../..../..2./...3");
        due("neither into (0, 2) 2, nor into (0, 3) 3", 0, () -> g.of(2, 2));
        madeOf("01.../..2../..3../..4../.....");
        due("(0, 2) alone", 1, () -> g.of(3, 2));
        madeOf("012./..../..../...3");
        due("(0, 3), by the last row", 1, () -> g.of(4, 2));
        madeOf("3.../..../..../.012");
        due("(3, 0), by the first row", 1, () -> g.of(5, 2));
    }

    // ---- 9

    @Sentence("9: an empty one being like an empty one alone")
    void distancesOfEmptyCells() {
        for (int n : ORDERS) {
            fresh();
            g.grid(n);
            g.grid(n);
            madeOf(String.join("/", SQUARES[n]));
            due("two empty ones", 0, () -> g.distance(0, 1));
            due("of an empty one and a square all", n * n, () -> g.distance(0, 2));
            due("the other way round", n * n, () -> g.distance(2, 1));
            g.put(0, n - 1, n - 1, 0);
            due("the sign 0 is not like empty", 1, () -> g.distance(0, 1));
            due("the other way round", 1, () -> g.distance(1, 0));
            g.put(1, n - 1, n - 1, 1);
            due("two signs", 1, () -> g.distance(1, 0));
            g.put(1, n - 1, n - 1, 0);
            due("the same sign", 0, () -> g.distance(1, 0));
        }
    }

    @Sentence("9: Returns in how many cells two GRIDS are unlike: all, and none")
    void distancesOfSquares() {
        for (int n : ORDERS) {
            fresh();
            g.linear(n, 1, 1, 0);
            g.linear(n, 1, 1, 1);
            due("all cells", n * n, () -> g.distance(0, 1));
            due("with itself", 0, () -> g.distance(1, 1));
        }
    }

    @Sentence("9: Throws IllegalArgumentException if their ORDERS are unlike")
    void distancesOfOrders() {
        for (int n : ORDERS) {
            g.grid(n);
        }
        for (int i = 0; i < 4; i++) {
            for (int j = 0; j < 4; j++) {
                int first = i;
                int other = j;
                due(i == j ? 0 : "throws.IllegalArgumentException", () -> g.distance(first, other));
            }
        }
    }
}
