/**
 * What is asked of grids, of each grid of the orders 2 and 3; and what is asked of
 * squares, of each square of the orders 2 to 4, and of every 500th of the order 5: all
 * as PlainGrove tells it.
 */
public final class AllGridsTest {
    private static final int[] STEPS = {0, 0, 1, 1, 1, 500};

    private final Quasigrove g;
    private final PlainGrove plain;
    private final String asked;

    public static void main(String[] args) {
        Check.begin();
        for (int n = 2; n <= 5; n++) {
            for (int i = 0; i < PlainGrove.squares(n).size(); i += STEPS[n]) {
                new AllGridsTest(PlainGrove.squares(n).get(i)).askSquare();
            }
        }
        askAllFrom(new int[2][2], 0);
        askAllFrom(new int[3][3], 0);
        Check.end();
    }

    private static void askAllFrom(int[][] signs, int cell) {
        int n = signs.length;
        if (cell == n * n) {
            new AllGridsTest(signs).askGrid();
            return;
        }
        for (int sign = Quasigrove.NONE; sign < n; sign++) {
            if (sign == Quasigrove.NONE || isNew(signs, cell, sign)) {
                signs[cell / n][cell % n] = sign;
                askAllFrom(signs, cell + 1);
            }
        }
    }

    /** Tells whether no cell above or to the left of one has the sign. */
    private static boolean isNew(int[][] signs, int cell, int sign) {
        int n = signs.length;
        for (int i = 0; i < n; i++) {
            if (i < cell % n && signs[cell / n][i] == sign || i < cell / n && signs[i][cell % n] == sign) {
                return false;
            }
        }
        return true;
    }

    private AllGridsTest(int[][] signs) {
        int n = signs.length;
        g = new Quasigrove();
        plain = new PlainGrove();
        g.grid(n);
        plain.grid(n);
        for (int cell = 0; cell < n * n; cell++) {
            g.put(0, cell / n, cell % n, signs[cell / n][cell % n]);
            plain.put(0, cell / n, cell % n, signs[cell / n][cell % n]);
        }
        asked = " of " + Groves.shown(g, 0);
    }

    private void askGrid() {
        int n = plain.of(0, 0);
        due("8: signs", plain.of(0, 1), () -> g.of(0, 1));
        due("8: cells into which none can be put", plain.of(0, 2), () -> g.of(0, 2));
        for (int cell = 0; cell < n * n; cell++) {
            int at = cell;
            due("12: can", plain.can(0, at / n, at % n), () -> g.can(0, at / n, at % n));
        }
        int fills = plain.fills(0, 1000);
        due("13: fills", fills, () -> g.fills(0, 1000));
        due("14: fillsAnew", fills, () -> g.fillsAnew(0, 1000));
        due("16: forced", plain.forced(0), () -> g.forced(0));
        due("17: logic", plain.logic(0), () -> g.logic(0));
        if (n * n - plain.of(0, 1) > 6) {
            Check.state("33: wins" + asked, () -> g.wins(0));
        } else {
            due("33: wins", plain.wins(0), () -> g.wins(0));
        }
        if (fills == 0) {
            Check.state("15: fill" + asked, () -> g.fill(0));
        } else {
            due("15: fill", plain.fill(0), () -> g.fill(0));
        }
        compareCells(0);
    }

    private void askSquare() {
        int n = plain.of(0, 0);
        due("23: unit", plain.unit(0), () -> g.unit(0));
        for (int k = 0; k < 4; k++) {
            int which = k;
            due("24: nucleus " + k, plain.nucleus(0, k), () -> g.nucleus(0, which));
        }
        for (int s = 1; s < 1 << n; s++) {
            int set = s;
            due("25: closed from " + s, plain.closed(0, s), () -> g.closed(0, set));
        }
        for (int k = 0; k < 5; k++) {
            int what = k;
            due("26: count " + k, plain.count(0, k), () -> g.count(0, what));
        }
        due("27: isotopies to itself", plain.isotopies(0, 0), () -> g.isotopies(0, 0));
        for (int k = 0; k < 3; k++) {
            int which = k;
            due("32: parity " + k, plain.parity(0, k), () -> g.parity(0, which));
        }
        askMates();
    }

    private void askMates() {
        due("28: transversals", plain.transversals(0), () -> g.transversals(0));
        int mates = plain.mates(0);
        due("29: mates", mates, () -> g.mates(0));
        if (mates == 0) {
            Check.state("30: mate" + asked, () -> g.mate(0));
        } else {
            due("30: mate", plain.mate(0), () -> g.mate(0));
            compareCells(1);
        }
    }

    private void compareCells(int grid) {
        int n = plain.of(grid, 0);
        for (int cell = 0; cell < n * n; cell++) {
            int at = cell;
            due("the cell " + at, plain.cell(grid, at / n, at % n), () -> g.cell(grid, at / n, at % n));
        }
    }

    private void due(String what, int want, Check.Call call) {
        Check.due(what + asked, want, call);
    }
}
