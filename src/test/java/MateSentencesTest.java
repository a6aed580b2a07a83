import java.util.ArrayList;
import java.util.List;

/** Each sentence of the promises 28 to 33 that names a boundary case. */
public final class MateSentencesTest extends Scene {
    private static final String PAIRS = "0123/1032/2301/3210";
    private static final String REMAINDERS = "0123/1230/2301/3012";

    public static void main(String[] args) {
        runAll(MateSentencesTest.class);
    }

    // ---- 28

    @Sentence("28: Counts the TRANSVERSALS of a SQUARE: 0, if there are none")
    void noTransversals() {
        due("01/10", 0, () -> g.transversals(madeOf("01/10")));
        due("10/01", 0, () -> g.transversals(madeOf("10/01")));
        due(REMAINDERS, 0, () -> g.transversals(madeOf(REMAINDERS)));
    }

    @Sentence("TRANSVERSAL: n cells, one in each row and column, and with each SIGN: the most there are of each ORDER")
    void mostTransversals() {
        int[] due = {0, 3, 8, 15};
        String[] squares = {"01/10", "012/120/201", PAIRS, "42301/20134/31240/14023/03412"};
        for (int i = 0; i < due.length; i++) {
            int number = i;
            due(due[i], () -> g.transversals(madeOf(squares[number])));
        }
        due("three of the order 5", 3, () -> g.transversals(madeOf("13042/01234/30421/42310/24103")));
    }

    @Sentence("28: Counts: each ISOTOPE and each CONJUGATE has as many, and asked again they are as many")
    void transversalsOfIsotopes() {
        madeOf("13042/01234/30421/42310/24103");
        g.isotope(0, 24013, 1234, 13240);
        for (int k = 1; k < 6; k++) {
            g.conjugate(1, k);
        }
        for (int round = 0; round < 2; round++) {
            for (int grid = 0; grid < 7; grid++) {
                int number = grid;
                due(3, () -> g.transversals(number));
            }
        }
    }

    // ---- 29

    /** The squares of the order that have 0, 1, 2 and so on in their row 0, and are mates of a square, by areMates. */
    private static List<String> matesByAsking(String square) {
        int n = square.indexOf('/');
        List<String> mates = new ArrayList<>();
        for (int[][] other : PlainGrove.squares(n)) {
            StringBuilder text = new StringBuilder();
            for (int cell = 0; cell < n * n; cell++) {
                text.append(cell > 0 && cell % n == 0 ? "/" : "").append(other[cell / n][cell % n]);
            }
            if (text.toString().startsWith("01234".substring(0, n))) {
                Quasigrove pair = new Quasigrove();
                Groves.made(pair, square.split("/"));
                Groves.made(pair, text.toString().split("/"));
                if (pair.areMates(0, 1)) {
                    mates.add(text.toString());
                }
            }
        }
        return mates;
    }

    @Sentence("29: Counts the MATES of a SQUARE which have 0, 1, 2 and so on in their row 0: 0, if there are none")
    void noMates() {
        for (String square : new String[] {"01/10", "10/01", REMAINDERS, "01234/10342/23401/34120/42013"}) {
            fresh();
            madeOf(square);
            due(square, 0, () -> g.mates(0));
            state("and none is made", () -> g.mate(0));
            range(() -> g.of(1, 0));
        }
    }

    @Sentence("29: Counts the MATES which have 0, 1, 2 and so on in their row 0: those, whatever the SQUARE has in its own")
    void matesWithTheirRow() {
        String[] squares = {"012/120/201", "201/012/120", "021/102/210", PAIRS, "2301/3210/0123/1032",
            "0132/1023/3201/2310", "01234/12340/23401/34012/40123", "42301/20134/31240/14023/03412"};
        for (String square : squares) {
            fresh();
            madeOf(square);
            List<String> mates = matesByAsking(square);
            due(square, mates.size(), () -> g.mates(0));
        }
        int[] due = {1, 2, 3};
        for (int n = 3; n <= 5; n++) {
            int want = due[n - 3];
            int order = n;
            due(want, () -> g.mates(order == 4 ? madeOf(PAIRS) : g.linear(order, 1, 1, 3)));
        }
    }

    // ---- 30

    @Sentence("30: Makes the LOWEST MATE of a SQUARE; returns the number of the new one")
    void lowestMates() {
        String[] squares = {"012/120/201", "201/012/120", "021/102/210", PAIRS, "2301/3210/0123/1032",
            "01234/12340/23401/34012/40123", "42301/20134/31240/14023/03412", "34012/01234/23401/40123/12340"};
        for (String square : squares) {
            fresh();
            madeOf(square);
            due(1, () -> g.mate(0));
            due(square, matesByAsking(square).get(0), () -> shown(1));
            due("they are mates", true, () -> g.areMates(0, 1));
            due("the other way round too", true, () -> g.areMates(1, 0));
            due("the square stays", square, () -> shown(0));
        }
    }

    @Sentence("30: Throws IllegalStateException if it is no SQUARE, has no MATE, or there are 12: the twelfth is made")
    void mateTwelve() {
        madeOf("012/120/201");
        for (int number = 1; number < 12; number++) {
            int next = number;
            due(next, () -> g.mate(next - 1));
        }
        for (int grid = 0; grid < 12; grid++) {
            int number = grid;
            state(() -> g.mate(number));
        }
        due("as many as before", 1, () -> g.mates(11));
    }

    @Sentence("30: Throws IllegalStateException if it .. has no MATE: nothing of an earlier SQUARE's is left")
    void noMateAfterOne() {
        madeOf(PAIRS);
        madeOf(REMAINDERS);
        due(2, () -> g.mate(0));
        state(() -> g.mate(1));
        due(0, () -> g.mates(1));
        due(0, () -> g.transversals(1));
        due(2, () -> g.mates(0));
        due(3, () -> g.mate(0));
        due(0, () -> g.distance(2, 3));
    }

    @Sentence("30: Makes the LOWEST MATE: one that can be changed as each other GRID, whatever was made before")
    void matesThatChange() {
        String[] squares = {"01234/12340/23401/34012/40123", PAIRS, "012/120/201"};
        for (String first : squares) {
            for (String second : squares) {
                fresh();
                madeOf(first);
                madeOf(second);
                int n = second.indexOf('/');
                due(2, () -> g.mate(0));
                due(3, () -> g.mate(1));
                for (int row = 1; row < n; row++) {
                    int at = row;
                    due("a row full before and after", true, () -> g.turn(3, 0, at, n - 1) >= 2);
                    due("a column full too", 0, () -> g.can(3, at, at));
                }
                for (int cell = 0; cell < n * n; cell++) {
                    int row = cell / n;
                    int column = cell % n;
                    int sign = g.put(3, row, column, -1);
                    due("what went can come again", 1 << sign, () -> g.can(3, row, column));
                    due(-1, () -> g.put(3, row, column, sign));
                }
                due("it can be stirred", 12345, () -> g.stir(3, 0, 1));
            }
        }
    }

    // ---- 31

    @Sentence("31: false if their ORDERS are unlike")
    void matesOfUnlikeOrders() {
        for (int n : ORDERS) {
            g.linear(n, 1, 1, 0);
        }
        for (int i = 0; i < 4; i++) {
            for (int j = 0; j < 4; j++) {
                int first = i;
                int other = j;
                due(false, () -> g.areMates(first, other));
            }
        }
    }

    @Sentence("MATES, if no two cells have the same SIGN in the first and the same SIGN in the second: two such cells are enough")
    void almostMates() {
        madeOf("01234/12340/23401/34012/40123");
        g.linear(5, 2, 1, 0);
        due("mates", true, () -> g.areMates(0, 1));
        due(2, () -> g.conjugate(1, 0));
        int turned = g.turn(2, 0, 1, 0);
        due("a turn makes them none", false, () -> g.areMates(0, 2));
        due("the other way round", false, () -> g.areMates(2, 0));
        due("turned back", turned, () -> g.turn(2, 0, 1, 0));
        due("mates again", true, () -> g.areMates(0, 2));
    }

    @Sentence("31: Tells whether two SQUARES are MATES: no SQUARE is one of itself, nor are any two of the ORDER 2")
    void noMatesOfThemselves() {
        for (int n : ORDERS) {
            fresh();
            int square = g.linear(n, 1, 1, 0);
            int other = g.linear(n, 1, 1, 1);
            due(false, () -> g.areMates(square, square));
            due(false, () -> g.areMates(square, other));
            due(false, () -> g.areMates(other, square));
        }
        due("of the orders 3 and 5", true, () -> g.areMates(0, g.linear(5, 1, 2, 0)));
    }

    // ---- 32

    @Sentence("32: which: 0 that of rows, 1 of columns, 2 of SIGNS: IllegalArgumentException if which is out of range")
    void whichParities() {
        String[] squares = {"012/120/201", "021/102/210", "012/201/120", "01/10"};
        int[][] due = {{0, 0, 1}, {1, 0, 0}, {0, 1, 0}, {1, 1, 1}};
        for (int i = 0; i < squares.length; i++) {
            int square = madeOf(squares[i]);
            for (int which = 0; which <= 2; which++) {
                int k = which;
                due(squares[i] + " " + k, due[i][k], () -> g.parity(square, k));
            }
            for (int wrong : new int[] {-1, 3, Integer.MIN_VALUE, Integer.MAX_VALUE}) {
                argument(() -> g.parity(square, wrong));
            }
        }
    }

    @Sentence("32: Returns 0 or 1: the remainder by 2 of the number of all pairs, which all have the same number of SIGNS")
    void paritiesTogether() {
        for (int n : ORDERS) {
            fresh();
            madeOf(String.join("/", SQUARES[n]));
            // it is known that the three together are the number of pairs of columns, by 2
            int want = n * (n - 1) / 2 % 2;
            for (int round = 0; round < 100; round++) {
                int seed = 31 * round + n;
                g.stir(0, seed, 3);
                int rows = g.parity(0, 0);
                int columns = g.parity(0, 1);
                int signs = g.parity(0, 2);
                due("0 or 1", 0, () -> (rows | columns | signs) & ~1);
                due("together", want, () -> (rows + columns + signs) % 2);
            }
        }
    }

    @Sentence("Mates: that of columns that of pairs of rows, of all columns, likewise; that of SIGNS is the parity of rows of the CONJUGATE 5")
    void paritiesOfConjugates() {
        for (int n : ORDERS) {
            for (int round = 0; round < 20; round++) {
                fresh();
                madeOf(String.join("/", SQUARES[n]));
                g.stir(0, 77 * round + n, 5);
                g.conjugate(0, 1);
                g.conjugate(0, 5);
                due("of columns", g.parity(1, 0), () -> g.parity(0, 1));
                due("of signs", g.parity(2, 0), () -> g.parity(0, 2));
            }
        }
    }

    @Sentence("Mates: of which the one with the higher number has the lesser SIGN: two columns exchanged tell of each row")
    void paritiesOfExchangedLines() {
        int[] identities = {10, 210, 3210, 43210};
        int[] exchanged = {1, 201, 3201, 43201};
        for (int n : ORDERS) {
            int change = n % 2;
            for (int round = 0; round < 10; round++) {
                fresh();
                madeOf(String.join("/", SQUARES[n]));
                g.stir(0, 5 * round + n, 5);
                g.isotope(0, identities[n - 2], exchanged[n - 2], identities[n - 2]);
                due("of rows", g.parity(0, 0), () -> (g.parity(1, 0) + change) % 2);
                due("of columns", g.parity(0, 1), () -> g.parity(1, 1));
            }
        }
    }

    // ---- 33

    @Sentence("33: NONE if there is none: of a SQUARE, as who cannot has lost")
    void winsOfSquares() {
        for (int n : ORDERS) {
            int square = madeOf(String.join("/", SQUARES[n]));
            due(-1, () -> g.wins(square));
        }
    }

    @Sentence("33: the move; NONE if there is none: the last move wins, so that of one by one each second one does")
    void winsOfCellsInALine() {
        for (int n : ORDERS) {
            int square = g.linear(n, 1, 1, 0);
            for (int i = n - 1; i >= 0; i--) {
                g.put(square, i, i, -1);
                int at = i;
                int want = (n - i) % 2 == 0 ? -1 : 10 * (n * at + at) + 2 * at % n;
                due(n + " " + (n - i) + " cells", want, () -> g.wins(square));
            }
        }
    }

    @Sentence("A move is told by 10 times the number of the cell, and the SIGN, together: 0 for the SIGN 0 in the cell 0")
    void winsToldAsZero() {
        madeOf(".1/10");
        due(0, () -> g.wins(0));
        madeOf(".1234/12340/23401/34012/40123");
        due(0, () -> g.wins(1));
    }

    @Sentence("A move is told by 10 times the number of the cell, and the SIGN, together: of the last cell and the highest SIGN")
    void winsToldOfTheLast() {
        for (int n : ORDERS) {
            int square = g.linear(n, 1, 1, 1);
            g.put(square, n - 1, n - 1, -1);
            due(10 * (n * n - 1) + n - 1, () -> g.wins(square));
        }
    }

    @Sentence("33: NONE if there is none: where into no empty cell a SIGN can be put")
    void winsOfDeadCells() {
        madeOf("0./.1");
        due(-1, () -> g.wins(0));
        int dead = madeOf("103.2/.32.1/04.1./21.40/42103");
        due("six cells", 6, () -> g.of(dead, 2));
        due(-1, () -> g.wins(dead));
    }

    @Sentence("33: Throws IllegalStateException if more than 6 cells of it are empty: 6 are not, 7 are")
    void winsOfSixAndSeven() {
        for (int n = 3; n <= 5; n++) {
            fresh();
            g.linear(n, 1, 1, 0);
            for (int cell = 0; cell < n * n; cell++) {
                g.put(0, cell / n, cell % n, -1);
                if (cell < 6) {
                    due(cell + 1 + " cells", true, () -> g.wins(0) >= -1);
                } else {
                    state(cell + 1 + " cells", () -> g.wins(0));
                }
            }
            due("all were emptied", 0, () -> g.of(0, 1));
        }
    }

    @Sentence("33: more than 6 cells of it are empty, whether a SIGN can be put into them or not")
    void winsOfSevenDeadCells() {
        int grid = madeOf("0..21/24.10/423../104.3/.3104");
        due("into none of the seven", 7, () -> g.of(grid, 2));
        state(() -> g.wins(grid));
        g.put(grid, 4, 1, -1);
        state("eight", () -> g.wins(grid));
    }

    @Sentence("33: the lowest move by which the player who is to move wins, whatever the other one does: of all that is left of a square of 3")
    void winsOfAllParts() {
        for (int set = 0; set < 512; set++) {
            if (Integer.bitCount(set) <= 6) {
                fresh();
                PlainGrove plain = new PlainGrove();
                g.linear(3, 1, 1, 0);
                plain.linear(3, 1, 1, 0);
                for (int cell = 0; cell < 9; cell++) {
                    if ((set >> cell & 1) == 1) {
                        g.put(0, cell / 3, cell % 3, -1);
                        plain.put(0, cell / 3, cell % 3, -1);
                    }
                }
                due(shown(0), plain.wins(0), () -> g.wins(0));
                due("asked again", plain.wins(0), () -> g.wins(0));
            }
        }
    }

    @Sentence("33: the lowest move by which .. wins: a lower one that loses is passed over")
    void winsByALaterMove() {
        madeOf("10..3/3.420/.1032/4.20./02341");
        due("into one of six cells alone a sign can be put", 5, () -> g.of(0, 2));
        due(163, () -> g.wins(0));
        // of the four moves into the two rows, those that leave the other player two single cells lose
        int grid = madeOf("01../10../2301/3210");
        int won = g.wins(grid);
        due("whoever begins loses", -1, () -> won);
        g.put(grid, 0, 2, 2);
        due("the other one answers in the lowest cell", 33, () -> g.wins(grid));
    }
}
