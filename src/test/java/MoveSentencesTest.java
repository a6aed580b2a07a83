/** Each sentence of the promises 10 and 11 that names a boundary case. */
public final class MoveSentencesTest extends Scene {
    public static void main(String[] args) {
        runAll(MoveSentencesTest.class);
    }

    // ---- 10

    @Sentence("TURN: until the first column would come again: two columns, from either of them")
    void turnOfTwoColumns() {
        madeOf("0123/1032/2301/3210");
        due("from the first of both", 2, () -> g.turn(0, 0, 1, 0));
        due("1023/0132/2301/3210", () -> shown(0));
        due("from the second of both, back", 2, () -> g.turn(0, 0, 1, 1));
        due("0123/1032/2301/3210", () -> shown(0));
        due("of the other two", 2, () -> g.turn(0, 0, 1, 2));
        due("0132/1023/2301/3210", () -> shown(0));
        due("from the last column", 2, () -> g.turn(0, 0, 1, 3));
        due("0123/1032/2301/3210", () -> shown(0));
    }

    @Sentence("TURN: until the first column would come again: all columns, from whichever")
    void turnOfAllColumns() {
        for (int n : ORDERS) {
            for (int column = 0; column < n; column++) {
                fresh();
                int start = column;
                String first = "01234".substring(0, n);
                String second = first.substring(1) + "0";
                String rest = ("/" + ".".repeat(n)).repeat(n - 2);
                madeOf(first + "/" + second + rest);
                due(n + " from " + start, n, () -> g.turn(0, 0, 1, start));
                due(second + "/" + first + rest, () -> shown(0));
            }
        }
    }

    @Sentence("TURN: the next column is always that in which the first has the SIGN that the second one has: back over the lower columns too")
    void turnToLowerColumns() {
        // from the column 4: the second has 1, which the first has in 1; there 4, which it has in 4
        madeOf("01234/24301/...../...../.....");
        due(2, () -> g.turn(0, 0, 1, 4));
        due("04231/21304/...../...../.....", () -> shown(0));
        // from the column 3: the second has 0, then 2 in 0, then 3 in 2
        due(3, () -> g.turn(0, 0, 1, 3));
        due("24301/01234/...../...../.....", () -> shown(0));
    }

    @Sentence("TURN: in all these columns both rows exchange their SIGNS: in no other one, and in no other row")
    void turnLeavesTheRest() {
        for (int column = 0; column < 4; column++) {
            fresh();
            int start = column;
            madeOf("0123/1032/2301/3210");
            due(2, () -> g.turn(0, 3, 1, start));
            String want = start == 0 || start == 2 ? "0123/3012/2301/1230" : "0123/1230/2301/3012";
            due(want, () -> shown(0));
        }
    }

    @Sentence("10: two unlike rows: the same two the other way round exchange the same columns")
    void turnTheOtherWayRound() {
        for (int n : ORDERS) {
            for (int column = 0; column < n; column++) {
                fresh();
                madeOf(String.join("/", SQUARES[n]));
                madeOf(String.join("/", SQUARES[n]));
                int start = column;
                int turned = g.turn(0, n - 1, 0, start);
                due(turned, () -> g.turn(1, 0, n - 1, start));
                due(0, () -> g.distance(0, 1));
                due("from the same column it goes back", turned, () -> g.turn(1, 0, n - 1, start));
                due(String.join("/", SQUARES[n]), () -> shown(1));
            }
        }
    }

    @Sentence("Terms: The aim is that each move keeps the law: after it each SIGN is where it can be, and nowhere else")
    void turnKeepsTheLaw() {
        madeOf("01234/34012/...../...../.....");
        due(5, () -> g.turn(0, 0, 1, 2));
        for (int column = 0; column < 5; column++) {
            int at = column;
            int want = 31 & ~(1 << at) & ~(1 << (at + 3) % 5);
            due("the column " + at, want, () -> g.can(0, 4, at));
            due("a full row takes none", 0, () -> g.can(0, 0, at));
            state("what the first row has now", () -> g.put(0, 3, at, (at + 3) % 5));
        }
        due("an emptied cell takes again what it had", 0, () -> g.put(0, 1, 0, -1));
        due(1, () -> g.can(0, 1, 0));
        due(-1, () -> g.put(0, 1, 0, 0));
    }

    @Sentence("10: Throws IndexOutOfBoundsException if there is no such row or column")
    void turnOutside() {
        for (int n : ORDERS) {
            int grid = g.linear(n, 1, 1, 0);
            for (int wrong : new int[] {-1, n, Integer.MIN_VALUE, Integer.MAX_VALUE}) {
                range("row " + wrong, () -> g.turn(grid, wrong, 0, 0));
                range("other " + wrong, () -> g.turn(grid, 0, wrong, 0));
                range("column " + wrong, () -> g.turn(grid, 0, 1, wrong));
            }
        }
    }

    @Sentence("10: Throws IllegalArgumentException if both rows are the same")
    void turnOfTheSameRow() {
        for (int n : ORDERS) {
            int grid = g.linear(n, 1, 1, 0);
            for (int row = 0; row < n; row++) {
                int same = row;
                argument(() -> g.turn(grid, same, same, n - 1));
            }
        }
    }

    @Sentence("10: Throws IllegalStateException if one of both has an empty cell: one alone, whichever, in whichever of both")
    void turnOfAnEmptyCell() {
        for (int n : ORDERS) {
            for (int column = 0; column < n; column++) {
                fresh();
                madeOf(String.join("/", SQUARES[n]));
                int at = column;
                int sign = g.put(0, 0, at, Quasigrove.NONE);
                for (int from = 0; from < n; from++) {
                    int start = from;
                    state("of the first", () -> g.turn(0, 0, n - 1, start));
                    state("of the second", () -> g.turn(0, n - 1, 0, start));
                }
                g.put(0, 0, at, sign);
                due("no longer", true, () -> g.turn(0, 0, n - 1, at) >= 2);
            }
        }
    }

    @Sentence("10: Throws IllegalStateException if one of both has an empty cell: not for those of other rows")
    void turnAmongEmptyRows() {
        madeOf("...../01234/...../...../12340");
        due(5, () -> g.turn(0, 1, 4, 4));
        due("...../12340/...../...../01234", () -> shown(0));
        madeOf("012/120/.01");
        due(3, () -> g.turn(1, 0, 1, 0));
        due("120/012/.01", () -> shown(1));
    }

    @Sentence("10: Returns in how many columns SIGNS were exchanged: 2 at least, all at most")
    void turnReturns() {
        for (int n : ORDERS) {
            for (int cell = 0; cell < n * n * n; cell++) {
                int row = cell % n;
                int other = cell / n % n;
                int column = cell / n / n;
                if (row != other) {
                    fresh();
                    madeOf(String.join("/", SQUARES[n]));
                    madeOf(String.join("/", SQUARES[n]));
                    int turned = g.turn(0, row, other, column);
                    due(true, () -> turned >= 2 && turned <= n && turned != n - 1);
                    due("in two rows each", 2 * turned, () -> g.distance(0, 1));
                    due("a square still", true, () -> g.unit(0) >= -1);
                }
            }
        }
    }

    // ---- 11

    @Sentence("11: seed: 0 at least")
    void seeds() {
        g.linear(3, 1, 1, 0);
        due("0", 12345, () -> g.stir(0, 0, 1));
        due("the highest", 1043980748, () -> g.stir(0, Integer.MAX_VALUE, 1));
        argument("-1", () -> g.stir(0, -1, 1));
        argument("the least number", () -> g.stir(0, Integer.MIN_VALUE, 1));
    }

    @Sentence("11: times: 1 to 50")
    void times() {
        g.linear(3, 1, 1, 0);
        due("1", 1103527590, () -> g.stir(0, 1, 1));
        due("50", true, () -> g.stir(0, 1, 50) >= 0);
        for (int wrong : new int[] {0, -1, 51, 100, Integer.MIN_VALUE, Integer.MAX_VALUE}) {
            argument("" + wrong, () -> g.stir(0, 1, wrong));
        }
    }

    @Sentence("STIR: so many times: 50 times at once as 50 times one behind the other")
    void stirOneByOne() {
        for (int n : ORDERS) {
            fresh();
            madeOf(String.join("/", SQUARES[n]));
            madeOf(String.join("/", SQUARES[n]));
            int seed = 1954 + n;
            for (int time = 0; time < 50; time++) {
                seed = g.stir(0, seed, 1);
            }
            int last = seed;
            due(last, () -> g.stir(1, 1954 + n, 50));
            due("the same square", 0, () -> g.distance(0, 1));
        }
    }

    @Sentence("STIR: the seed becomes 1103515245 times it and 12345, together, modulo 2147483648")
    void seedsWrapAround() {
        g.linear(2, 1, 1, 0);
        int[] seeds = {0, 1, 2, 3, 1 << 30, Integer.MAX_VALUE, Integer.MAX_VALUE - 1, 1103515245, 1234567890};
        for (int seed : seeds) {
            java.math.BigInteger next = java.math.BigInteger.valueOf(1103515245).multiply(java.math.BigInteger.valueOf(seed))
                    .add(java.math.BigInteger.valueOf(12345)).mod(java.math.BigInteger.valueOf(2147483648L));
            due("of " + seed, next, () -> g.stir(0, seed, 1));
        }
    }

    @Sentence("STIR: rows are TURNED, the first q modulo n, the second that and 1 and .., together, modulo n, from the column .. on")
    void stirTurns() {
        for (int n : ORDERS) {
            for (int seed = 0; seed < 300; seed++) {
                fresh();
                g.linear(n, 1, 1, 0);
                g.linear(n, 1, 1, 0);
                // each square is stirred first, so that turns are shorter than whole rows
                g.stir(0, 7, 9);
                g.stir(1, 7, 9);
                int told = seed * 7158278;
                long next = (1103515245L * told + 12345) % 2147483648L;
                int q = (int) (next / 65536);
                int first = q % n;
                int second = (first + 1 + q / n % (n - 1)) % n;
                g.turn(0, first, second, q / (n * n) % n);
                due("of " + told, next, () -> g.stir(1, told, 1));
                due("the same square", 0, () -> g.distance(0, 1));
            }
        }
    }

    @Sentence("11: Throws IllegalStateException if it is no SQUARE: for one empty cell in whichever row")
    void stirOfNoSquare() {
        for (int n : ORDERS) {
            int grid = g.linear(n, 1, 1, 0);
            for (int row = 0; row < n; row++) {
                int at = row;
                int sign = g.put(grid, at, at, Quasigrove.NONE);
                state(() -> g.stir(grid, 1, 1));
                g.put(grid, at, at, sign);
            }
            due(true, () -> g.stir(grid, 1, 1) >= 0);
        }
    }

    @Sentence("11: Returns the seed then: it is never below 0")
    void stirReturns() {
        g.linear(5, 1, 1, 0);
        int seed = 0;
        for (int time = 0; time < 500; time++) {
            int next = seed;
            int then = g.stir(0, next, 1);
            due(true, () -> then >= 0);
            seed = then;
        }
    }
}
