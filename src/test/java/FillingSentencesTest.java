/** Each sentence of the promises 12 to 18 that names a boundary case. */
public final class FillingSentencesTest extends Scene {
    /** No SQUARE fills these; only in the first two there is a cell into which no SIGN can be put. */
    private static final String[] UNFILLABLE = {"01./..2/...", "0./.1", "0../.0./..1", "0.../.0../..0./...1",
        "0..../.0.../..0../...0./....1", "..2./2.../...2/.1..", ".02../....0/..3../03.../...0."};

    public static void main(String[] args) {
        runAll(FillingSentencesTest.class);
    }

    // ---- 12

    @Sentence("12: as bits, that of the SIGN 0 lowest")
    void bitsOfSigns() {
        for (int n : ORDERS) {
            String all = "01234".substring(0, n);
            for (int sign = 0; sign < n; sign++) {
                fresh();
                String row = all.replace((char) ('0' + sign), '.');
                madeOf(row + ("/" + ".".repeat(n)).repeat(n - 1));
                int at = sign;
                due("the one sign that the row has not", 1 << at, () -> g.can(0, 0, at));
                due("the others below them", (1 << n) - 1 - (at == 0 ? 2 : 1), () -> g.can(0, n - 1, at == 0 ? 1 : 0));
            }
        }
    }

    @Sentence("12: Returns the set; all SIGNS of an empty GRID")
    void allCan() {
        for (int n : ORDERS) {
            int grid = g.grid(n);
            due((1 << n) - 1, () -> g.can(grid, 0, 0));
            due((1 << n) - 1, () -> g.can(grid, n - 1, n - 1));
        }
    }

    @Sentence("12: 0 if there are none")
    void noneCan() {
        madeOf("01./..2/...");
        due(0, () -> g.can(0, 0, 2));
        madeOf("0./.1");
        due(0, () -> g.can(1, 0, 1));
        due(0, () -> g.can(1, 1, 0));
        madeOf("0123./....4/...../...../.....");
        due(0, () -> g.can(2, 0, 4));
        due("of the column without the row", 15, () -> g.can(2, 4, 4));
    }

    @Sentence("12: 0 if the cell is not empty")
    void cellThatHasASignCan() {
        for (int n : ORDERS) {
            int grid = g.grid(n);
            g.put(grid, 0, 0, n - 1);
            due(0, () -> g.can(grid, 0, 0));
            g.put(grid, 0, 0, 0);
            due(0, () -> g.can(grid, 0, 0));
            g.put(grid, 0, 0, -1);
            due("empty again", (1 << n) - 1, () -> g.can(grid, 0, 0));
            g.fill(grid);
            for (int cell = 0; cell < n * n; cell++) {
                int at = cell;
                due("of a square", 0, () -> g.can(grid, at / n, at % n));
            }
        }
    }

    @Sentence("Filling: A SIGN can be put into an empty cell, if neither its row nor its column has it")
    void canAsRowAndColumnLeave() {
        madeOf("0..../...../...../...../....4");
        due("the row alone", 30, () -> g.can(0, 0, 1));
        due("the column alone", 30, () -> g.can(0, 1, 0));
        due("the row and the column", 14, () -> g.can(0, 0, 4));
        due("the column and the row", 14, () -> g.can(0, 4, 0));
        due("neither", 31, () -> g.can(0, 2, 2));
    }

    @Sentence("12: Throws IndexOutOfBoundsException if there is no such row or column")
    void canOutside() {
        for (int n : ORDERS) {
            int grid = g.grid(n);
            for (int wrong : new int[] {-1, n, Integer.MIN_VALUE, Integer.MAX_VALUE}) {
                range(() -> g.can(grid, wrong, 0));
                range(() -> g.can(grid, 0, wrong));
            }
        }
    }

    // ---- 13 and 14

    private void bothFill(Object want, int grid, int most) {
        due("fills, most " + most, want, () -> g.fills(grid, most));
        due("fillsAnew, most " + most, want, () -> g.fillsAnew(grid, most));
    }

    @Sentence("13: most: 1 to 1000")
    void mostOfFills() {
        g.grid(5);
        due(1, () -> g.fills(0, 1));
        due(999, () -> g.fills(0, 999));
        due(1000, () -> g.fills(0, 1000));
        for (int wrong : new int[] {0, -1, 1001, Integer.MIN_VALUE, Integer.MAX_VALUE}) {
            argument("" + wrong, () -> g.fills(0, wrong));
        }
    }

    @Sentence("14: most: 1 to 1000")
    void mostOfFillsAnew() {
        g.grid(5);
        due(1, () -> g.fillsAnew(0, 1));
        due(999, () -> g.fillsAnew(0, 999));
        due(1000, () -> g.fillsAnew(0, 1000));
        for (int wrong : new int[] {0, -1, 1001, Integer.MIN_VALUE, Integer.MAX_VALUE}) {
            argument("" + wrong, () -> g.fillsAnew(0, wrong));
        }
    }

    @Sentence("13, 14: Returns how many there are, or most, if there are more: most just below, at and above their number")
    void mostNearTheNumber() {
        int[] all = {2, 12, 576};
        for (int n = 2; n <= 4; n++) {
            int grid = g.grid(n);
            int number = all[n - 2];
            for (int most : new int[] {1, 2, number - 1, number, number + 1, 1000}) {
                bothFill(Math.min(number, most), grid, most);
            }
        }
    }

    @Sentence("13, 14: Returns how many there are: 0, if none fills it")
    void noneFills() {
        for (String text : UNFILLABLE) {
            int grid = madeOf(text);
            bothFill(0, grid, 1);
            bothFill(0, grid, 1000);
        }
    }

    @Sentence("13, 14: a SQUARE fills a GRID, if it has the SIGN of each cell of it that has one: a SQUARE itself alone")
    void squaresFillThemselves() {
        for (int n : ORDERS) {
            int square = madeOf(String.join("/", SQUARES[n]));
            bothFill(1, square, 1);
            bothFill(1, square, 1000);
            g.put(square, n - 1, n - 1, -1);
            bothFill(1, square, 1000);
        }
    }

    @Sentence("13, 14: how many SQUARES fill a GRID: those of each SIGN in a cell, together, are all")
    void fillsOfEachSign() {
        for (int cell = 0; cell < 16; cell++) {
            fresh();
            g.grid(4);
            int at = cell;
            for (int sign = 0; sign < 4; sign++) {
                g.put(0, at / 4, at % 4, sign);
                bothFill(144, 0, 1000);
            }
        }
    }

    @Sentence("13, 14: how many SQUARES fill a GRID: of the ORDER 5 with all of the first row and column 56")
    void fillsOfOrderFive() {
        madeOf("01234/1..../2..../3..../4....");
        bothFill(56, 0, 1000);
        bothFill(56, 0, 57);
        bothFill(56, 0, 56);
        bothFill(55, 0, 55);
        madeOf("01234/...../...../...../.....");
        bothFill(1000, 1, 1000);
    }

    @Sentence("14: Counts the same, for GRIDS with ever fewer SIGNS")
    void theSameCounts() {
        for (int step = 1; step <= 7; step++) {
            for (int n : ORDERS) {
                fresh();
                madeOf(String.join("/", SQUARES[n]));
                g.stir(0, step, step);
                for (int i = 0; i < n * n - 1; i++) {
                    int cell = (i * step * 3 + step) % (n * n);
                    g.put(0, cell / n, cell % n, Quasigrove.NONE);
                    int due = g.fills(0, 1000);
                    due(shown(0), due, () -> g.fillsAnew(0, 1000));
                    if (i % 4 == 3) {
                        String text = shown(0);
                        fresh();
                        madeOf(text);
                    }
                }
            }
        }
    }

    // ---- 15

    @Sentence("15: Returns how many cells were empty: 0 of a SQUARE, which stays")
    void fillOfSquares() {
        for (int n : ORDERS) {
            int square = madeOf(String.join("/", SQUARES[n]));
            due(0, () -> g.fill(square));
            due(String.join("/", SQUARES[n]), () -> shown(square));
        }
    }

    @Sentence("15: Makes of a GRID the LOWEST SQUARE that fills it; returns how many cells were empty: of an empty GRID all")
    void fillOfEmptyGrids() {
        String[] lowest = {"01/10", "012/120/201", "0123/1032/2301/3210", "01234/10342/23401/34120/42013"};
        for (int n : ORDERS) {
            int grid = g.grid(n);
            due(n * n, () -> g.fill(grid));
            due(lowest[n - 2], () -> shown(grid));
            due("then none is empty", 0, () -> g.fill(grid));
        }
    }

    @Sentence("15: Makes of a GRID the LOWEST SQUARE that fills it: of its one empty cell, whichever")
    void fillOfOneCell() {
        for (int n : ORDERS) {
            int square = madeOf(String.join("/", SQUARES[n]));
            for (int cell = 0; cell < n * n; cell++) {
                g.put(square, cell / n, cell % n, -1);
                due(1, () -> g.fill(square));
                due("each cell can be asked", n * n, () -> g.of(square, 1));
            }
            due(String.join("/", SQUARES[n]), () -> shown(square));
        }
    }

    @Sentence("LOWER: the lesser SIGN in the cell with the lowest number in which both are unlike: what comes later does not matter")
    void fillTakesTheLowest() {
        String[][] due = {{"...4./...../...../...../.....", "01243/10324/23401/34012/42130"},
            {".1../..../..../....", "0123/1032/2301/3210"}, {"3.../..../..../....", "3012/0123/1230/2301"},
            {"..../..../..../...3", "0132/1320/3201/2013"}, {".../.../..2", "021/210/102"}, {"../.1", "10/01"}};
        for (String[] pair : due) {
            fresh();
            madeOf(pair[0]);
            String want = lowestThatFills(pair[0]);
            due("by the list of all squares", want, () -> pair[1]);
            g.fill(0);
            due(pair[0], pair[1], () -> shown(0));
        }
    }

    private static String lowestThatFills(String text) {
        String signs = text.replace("/", "");
        int n = text.indexOf('/');
        for (int[][] square : PlainGrove.squares(n)) {
            boolean fills = true;
            StringBuilder shown = new StringBuilder();
            for (int cell = 0; cell < n * n; cell++) {
                int sign = square[cell / n][cell % n];
                fills &= signs.charAt(cell) == '.' || signs.charAt(cell) - '0' == sign;
                shown.append(cell > 0 && cell % n == 0 ? "/" : "").append(sign);
            }
            if (fills) {
                return shown.toString();
            }
        }
        return "none";
    }

    @Sentence("15: Throws IllegalStateException if none fills it: whether a SIGN can be put into each cell or not")
    void fillOfUnfillable() {
        for (String text : UNFILLABLE) {
            fresh();
            madeOf(text);
            state(text, () -> g.fill(0));
            due("it stays", text, () -> shown(0));
        }
    }

    @Sentence("15: after it no SIGN can be put, and each is where it counts")
    void fillMakesASquare() {
        for (int n : ORDERS) {
            int grid = g.grid(n);
            g.put(grid, n - 1, n - 1, n - 1);
            due(n * n - 1, () -> g.fill(grid));
            due(n * n, () -> g.of(grid, 1));
            due(true, () -> g.unit(grid) >= -1);
            due(n - 1, () -> g.put(grid, n - 1, n - 1, -1));
            due(1 << (n - 1), () -> g.can(grid, n - 1, n - 1));
        }
    }

    // ---- 16

    @Sentence("16: Returns NONE if none is FORCED: of an empty GRID")
    void forcedOfEmpty() {
        for (int n : ORDERS) {
            int grid = g.grid(n);
            due(-1, () -> g.forced(grid));
        }
    }

    @Sentence("16: Returns NONE if none is FORCED: of a SQUARE")
    void forcedOfSquares() {
        for (int n : ORDERS) {
            int square = g.linear(n, 1, 1, 0);
            due(-1, () -> g.forced(square));
        }
    }

    @Sentence("FORCED: to a SIGN that can be put there: a cell into which none can be put is not")
    void forcedOfDeadCells() {
        madeOf("0./.1");
        due(-1, () -> g.forced(0));
        // into (0, 3) none can be put, and 3 into no cell of the row 0
        madeOf("012./...3/..../....");
        due("nor is another one", -1, () -> g.forced(1));
    }

    @Sentence("16: 10 times the number of the cell, and the SIGN, together: 0 for the SIGN 0 in the cell 0")
    void forcedToldAsZero() {
        madeOf(".1/..");
        due(0, () -> g.forced(0));
        madeOf(".1234/...../...../...../.....");
        due(0, () -> g.forced(1));
    }

    @Sentence("16: 10 times the number of the cell, and the SIGN, together: of the last cell and the highest SIGN")
    void forcedToldOfTheLast() {
        for (int n : ORDERS) {
            // the sign of the last cell is n less 1
            int square = g.linear(n, 1, 1, 1);
            int last = n * n - 1;
            g.put(square, n - 1, n - 1, -1);
            due(10 * last + n - 1, () -> g.forced(square));
        }
    }

    @Sentence("FORCED: if no other SIGN can be put there")
    void forcedAsNoOtherSign() {
        // into (0, 0) 3 alone, which can go into (0, 2), (2, 0) and others too
        madeOf(".0.../1..../2..../4..../.....");
        due(3, () -> g.forced(0));
        g.put(0, 3, 0, -1);
        due("4 too is enough", -1, () -> g.forced(0));
    }

    @Sentence("FORCED: or the SIGN can be put into no other empty cell of its row")
    void forcedInARow() {
        madeOf("..0../...0./...../...../12...");
        due(240, () -> g.forced(0));
        due("other signs can be put there", 25, () -> g.can(0, 4, 4));
        g.put(0, 4, 1, -1);
        due("one other empty cell of the row is enough", -1, () -> g.forced(0));
    }

    @Sentence("FORCED: or of its column")
    void forcedInAColumn() {
        madeOf("....1/....2/0..../.0.../.....");
        due(240, () -> g.forced(0));
        g.put(0, 1, 4, -1);
        due("one other empty cell of the column is enough", -1, () -> g.forced(0));
    }

    @Sentence("16: that with the lowest number: though another one has a lower SIGN, or comes by another reason")
    void forcedLowestCell() {
        madeOf("012./..../..../1230");
        due("3 into the cell 3", 33, () -> g.forced(0));
        madeOf("..../1230/..../012.");
        due("by the row alone, the last one", 153, () -> g.forced(1));
        // 0 into the cell 24 by its row, and 4 into the cell 4 as the row has all others
        madeOf("0123./...0./..0../.0.../12...");
        due("4 into the cell 4", 44, () -> g.forced(2));
    }

    @Sentence("16: with the lowest SIGN to which it is FORCED")
    void forcedLowestSign() {
        // 1 and 3 can be put nowhere else in the row 0, nor in the column 0
        madeOf("...../.31../.13../...31/...13");
        due(1, () -> g.forced(0));
        g.put(0, 4, 3, -1);
        g.put(0, 3, 4, -1);
        due("3 alone then", 3, () -> g.forced(0));
        madeOf("...../.20../.02../...20/...02");
        due("0 before 2", 0, () -> g.forced(1));
    }

    @Sentence("16: with the lowest SIGN to which it is FORCED: whether that comes by the row or by the column")
    void forcedLowestSignOfBoth() {
        // 4 can be put nowhere else in the row 0, 2 nowhere else in the column 0
        madeOf(".01../3..4./0...4/.2.../..2..");
        due(20, () -> g.can(0, 0, 0));
        due("by the column", 2, () -> g.forced(0));
        g.conjugate(0, 1);
        due("by the row", 2, () -> g.forced(1));
        g.isotope(0, 43210, 43210, 23410);
        due("by the row, with 2 and 4 exchanged", 2, () -> g.forced(2));
        g.isotope(1, 43210, 43210, 23410);
        due("by the column, with 2 and 4 exchanged", 2, () -> g.forced(3));
    }

    // ---- 17

    @Sentence("17: Returns how many cells would be filled: 0 if none is FORCED")
    void logicOfNothing() {
        for (int n : ORDERS) {
            fresh();
            g.grid(n);
            due("empty", 0, () -> g.logic(0));
            g.linear(n, 1, 1, 0);
            due("a square", 0, () -> g.logic(1));
        }
        madeOf("0./.1");
        due("nothing can be put", 0, () -> g.logic(2));
    }

    @Sentence("17: by putting what forced() tells, again and again, until it tells NONE: up to all empty cells")
    void logicOfAll() {
        madeOf("0./..");
        due(3, () -> g.logic(0));
        madeOf("01./1../...");
        due(6, () -> g.logic(1));
        for (int n : ORDERS) {
            int square = g.linear(n, 1, 1, 0);
            for (int i = 0; i < n; i++) {
                g.put(square, i, i, -1);
                int empty = i + 1;
                due(empty, () -> g.logic(square));
            }
        }
    }

    @Sentence("17: again and again, until it tells NONE: as many as putting what forced() tells one by one")
    void logicOneByOne() {
        String[] texts = {"01./..2/...", "0123/1.../2.../....", "0.../.1../..2./...3", "01.../1.4../...2./..3../4....",
            "...../.31../.13../...31/...13", "012./...3/..../....", "0../.0./..1", "0123./....4/...../...../.....",
            "01../10../..../....", ".1.../...../3.2../...../....0"};
        for (String text : texts) {
            fresh();
            madeOf(text);
            madeOf(text);
            int filled = 0;
            for (int move = g.forced(1); move != -1; move = g.forced(1)) {
                int n = g.of(1, 0);
                g.put(1, move / 10 / n, move / 10 % n, move % 10);
                filled++;
            }
            int want = filled;
            due(text, want, () -> g.logic(0));
            due("it stays", text, () -> shown(0));
        }
    }

    // ---- 18

    @Sentence("18: Throws IllegalStateException if it is no SQUARE, or its ORDER is 5")
    void criticalRefused() {
        for (int n : ORDERS) {
            int square = madeOf(String.join("/", SQUARES[n]));
            int[] fewest = {1, 2, 5};
            due(n == 5 ? "throws.IllegalStateException" : fewest[n - 2], () -> g.critical(square));
            g.put(square, n - 1, n - 1, -1);
            state("one empty cell", () -> g.critical(square));
        }
    }

    @Sentence("18: the least number of cells of a SQUARE, which, with all others emptied, just one SQUARE fills: so many do, one less do not")
    void criticalTried() {
        String[] squares = {"01/10", "10/01", "012/120/201", "021/102/210", "0123/1032/2301/3210", "0123/1230/2301/3012",
            "2031/3120/0213/1302"};
        for (String square : squares) {
            fresh();
            madeOf(square);
            int fewest = g.critical(0);
            due(square + " by " + fewest, true, () -> someTell(square, fewest));
            due(square + " by one less", false, () -> someTell(square, fewest - 1));
        }
    }

    private static boolean someTell(String square, int size) {
        int n = square.indexOf('/');
        String signs = square.replace("/", "");
        for (int set = 0; set < 1 << n * n; set++) {
            if (Integer.bitCount(set) == size && tells(n, signs, set)) {
                return true;
            }
        }
        return false;
    }

    private static boolean tells(int n, String signs, int set) {
        Quasigrove part = new Quasigrove();
        part.grid(n);
        for (int cell = 0; cell < n * n; cell++) {
            if ((set >> cell & 1) == 1) {
                part.put(0, cell / n, cell % n, signs.charAt(cell) - '0');
            }
        }
        return part.fills(0, 2) == 1;
    }
}
