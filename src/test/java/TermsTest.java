import java.util.LinkedHashMap;
import java.util.Map;

/** Sentences of "What it is", "The public face" and "Terms" that many calls rest on, looked at in each of these calls. */
public final class TermsTest extends Scene {
    private interface GridCall {
        Object on(Quasigrove g, int grid);
    }

    private interface PairCall {
        Object on(Quasigrove g, int grid, int other);
    }

    public static void main(String[] args) {
        runAll(TermsTest.class);
    }

    /** Each call that takes the number of a grid, with other arguments that suit a square of any order. */
    private static Map<String, GridCall> gridCalls() {
        Map<String, GridCall> calls = new LinkedHashMap<>(squareCalls());
        calls.put("put", (g, grid) -> g.put(grid, 0, 0, Quasigrove.NONE));
        calls.put("isotope", (g, grid) -> g.isotope(grid, 10, 10, 10));
        calls.put("conjugate", (g, grid) -> g.conjugate(grid, 0));
        calls.put("cell", (g, grid) -> g.cell(grid, 0, 0));
        calls.put("of", (g, grid) -> g.of(grid, 0));
        calls.put("turn", (g, grid) -> g.turn(grid, 0, 1, 0));
        calls.put("can", (g, grid) -> g.can(grid, 0, 0));
        calls.put("fills", (g, grid) -> g.fills(grid, 1));
        calls.put("fillsAnew", (g, grid) -> g.fillsAnew(grid, 1));
        calls.put("fill", (g, grid) -> g.fill(grid));
        calls.put("forced", (g, grid) -> g.forced(grid));
        calls.put("logic", (g, grid) -> g.logic(grid));
        calls.put("wins", (g, grid) -> g.wins(grid));
        calls.put("distance, first", (g, grid) -> g.distance(grid, 0));
        calls.put("distance, other", (g, grid) -> g.distance(0, grid));
        return calls;
    }

    /** Each call that wants a square; the grid 0 is one. */
    private static Map<String, GridCall> squareCalls() {
        Map<String, GridCall> calls = new LinkedHashMap<>();
        calls.put("stir", (g, grid) -> g.stir(grid, 0, 1));
        calls.put("critical", (g, grid) -> g.critical(grid));
        calls.put("breaks", (g, grid) -> g.breaks(grid));
        calls.put("unit", (g, grid) -> g.unit(grid));
        for (int k = 0; k < 5; k++) {
            int which = k;
            if (k < 4) {
                calls.put("nucleus " + k, (g, grid) -> g.nucleus(grid, which));
            }
            if (k < 3) {
                calls.put("parity " + k, (g, grid) -> g.parity(grid, which));
            }
            calls.put("count " + k, (g, grid) -> g.count(grid, which));
        }
        calls.put("closed", (g, grid) -> g.closed(grid, 1));
        calls.put("isotopies, first", (g, grid) -> g.isotopies(grid, 0));
        calls.put("isotopies, other", (g, grid) -> g.isotopies(0, grid));
        calls.put("transversals", (g, grid) -> g.transversals(grid));
        calls.put("mates", (g, grid) -> g.mates(grid));
        calls.put("mate", (g, grid) -> g.mate(grid));
        calls.put("areMates, first", (g, grid) -> g.areMates(grid, 0));
        calls.put("areMates, other", (g, grid) -> g.areMates(0, grid));
        return calls;
    }

    private static Map<String, PairCall> pairCalls() {
        Map<String, PairCall> calls = new LinkedHashMap<>();
        calls.put("distance", (g, grid, other) -> g.distance(grid, other));
        calls.put("isotopies", (g, grid, other) -> g.isotopies(grid, other));
        calls.put("areMates", (g, grid, other) -> g.areMates(grid, other));
        return calls;
    }

    /** Each call that makes a grid, of the grid 0, which is a square with a mate. */
    private static Map<String, Check.Call> makers(Quasigrove g) {
        Map<String, Check.Call> calls = new LinkedHashMap<>();
        calls.put("grid", () -> g.grid(5));
        calls.put("linear", () -> g.linear(5, 4, 4, 4));
        calls.put("isotope", () -> g.isotope(0, 21, 102, 210));
        calls.put("conjugate", () -> g.conjugate(0, 5));
        calls.put("mate", () -> g.mate(0));
        return calls;
    }

    // ---- What it is, the public face

    @Sentence("What it is: An object is used for at most 512 calls after it has been made")
    void theCall512() {
        int square = madeOf("012/120/201");
        for (int call = 10; call < 510; call++) {
            g.stir(square, call, 50);
        }
        due("the 511th", 9, () -> g.of(square, 1));
        due("the 512th", 1, () -> g.fills(square, 1000));
    }

    @Sentence("The constants: NONE = -1")
    void none() {
        due(-1, () -> Quasigrove.NONE);
    }

    // ---- GRIDS

    @Sentence("GRIDS: GRIDS are numbered from 0: there is no such GRID below 0, or from their number on")
    void noSuchGrid() {
        for (String name : gridCalls().keySet()) {
            for (int wrong : new int[] {1, -1, 2, 11, 12, Integer.MAX_VALUE, Integer.MIN_VALUE, -2, 256, 65536}) {
                fresh();
                type("x=x");
                g.linear(3, 1, 1, 0);
                range(name + " of " + wrong, () -> gridCalls().get(name).on(g, wrong));
                due("and nothing is made", 1, () -> g.grid(2));
            }
            fresh();
            type("x=x");
            range(name + " of none", () -> gridCalls().get(name).on(g, 0));
        }
    }

    @Sentence("GRIDS: the number 12 is that of no GRID, though there are 12; the number 11 is one then")
    void numberOfTheLast() {
        for (Map.Entry<String, GridCall> call : gridCalls().entrySet()) {
            if (call.getKey().matches("isotope|conjugate|mate")) {
                continue;
            }
            fresh();
            type("x=x");
            for (int grid = 0; grid < 12; grid++) {
                g.linear(2, 1, 1, grid % 2);
            }
            due(call.getKey() + " of 11", true, () -> !String.valueOf(call.getValue().on(g, 11)).isEmpty());
            range(call.getKey() + " of 12", () -> call.getValue().on(g, 12));
        }
    }

    @Sentence("GRIDS: each in a row and a column, from 0 on: the last row and column are n less 1, none below 0")
    void linesOfEachOrder() {
        for (int n : ORDERS) {
            fresh();
            g.linear(n, 1, 1, 0);
            int last = n - 1;
            due((2 * last) % n, () -> g.cell(0, last, last));
            due(0, () -> g.cell(0, 0, 0));
            due(0, () -> g.can(0, last, last));
            due(last, () -> g.put(0, last, 0, last));
            due(last, () -> g.put(0, 0, last, last));
            due(true, () -> g.turn(0, last, 0, last) > 0);
            due(true, () -> g.turn(0, 0, last, last) > 0);
            for (int wrong : new int[] {-1, n, n + 1, 5, 25, Integer.MAX_VALUE, Integer.MIN_VALUE}) {
                range("cell, row " + wrong, () -> g.cell(0, wrong, 0));
                range("cell, column " + wrong, () -> g.cell(0, 0, wrong));
                range("can, row " + wrong, () -> g.can(0, wrong, 0));
                range("can, column " + wrong, () -> g.can(0, 0, wrong));
                range("put, row " + wrong, () -> g.put(0, wrong, 0, Quasigrove.NONE));
                range("put, column " + wrong, () -> g.put(0, 0, wrong, Quasigrove.NONE));
                range("turn, row " + wrong, () -> g.turn(0, wrong, 0, 0));
                range("turn, other " + wrong, () -> g.turn(0, 0, wrong, 0));
                range("turn, column " + wrong, () -> g.turn(0, 0, 1, wrong));
            }
        }
    }

    @Sentence("GRIDS: at most 12: each call that makes one makes the twelfth, with the number 11, and none more")
    void theTwelfth() {
        for (String maker : makers(g).keySet()) {
            fresh();
            madeOf("012/120/201");
            Groves.makeUpTo(g, 11);
            due(maker + ", the twelfth", 11, () -> makers(g).get(maker).answer());
            for (String other : makers(g).keySet()) {
                state(other + ", the thirteenth", () -> makers(g).get(other).answer());
            }
            state(maker + " once more", () -> makers(g).get(maker).answer());
            range("there is no thirteenth", () -> g.of(12, 0));
            due("the twelfth stays", true, () -> g.of(11, 0) >= 2);
        }
    }

    @Sentence("GRIDS: numbered from 0: each call that makes one answers the next number, also after refused ones")
    void numbersInTheirOrder() {
        madeOf("012/120/201");
        int number = 1;
        for (String maker : makers(g).keySet()) {
            int next = number++;
            argument(() -> g.grid(6));
            argument(() -> g.linear(4, 2, 1, 0));
            argument(() -> g.isotope(0, 21, 102, 211));
            argument(() -> g.conjugate(0, 6));
            range(() -> g.mate(next));
            due(maker, next, () -> makers(g).get(maker).answer());
        }
    }

    @Sentence("GRIDS: one that is made of another one stays as it is when that one changes")
    void madeOnesStay() {
        for (String maker : new String[] {"isotope", "conjugate", "mate"}) {
            for (int change = 0; change < 4; change++) {
                fresh();
                madeOf("012/120/201");
                makers(g).get(maker).answer();
                String before = shown(1);
                change(0, change);
                due(maker, before, () -> shown(1));
                due("the other one did change", false, () -> shown(0).equals("012/120/201"));
            }
        }
    }

    @Sentence("GRIDS: the one of which another one was made stays as it is when the new one changes")
    void madersStay() {
        for (String maker : new String[] {"isotope", "conjugate", "mate"}) {
            for (int change = 0; change < 4; change++) {
                fresh();
                madeOf("012/120/201");
                makers(g).get(maker).answer();
                change(1, change);
                due(maker, "012/120/201", () -> shown(0));
                due("what it can take stays too", 0, () -> g.of(0, 2));
            }
        }
    }

    private void change(int grid, int how) {
        switch (how) {
            case 0:
                g.put(grid, 2, 1, Quasigrove.NONE);
                break;
            case 1:
                g.turn(grid, 0, 1, 2);
                break;
            case 2:
                g.stir(grid, 5, 1);
                break;
            default:
                g.put(grid, 0, 0, Quasigrove.NONE);
                g.put(grid, 0, 1, Quasigrove.NONE);
                g.put(grid, 1, 0, Quasigrove.NONE);
                g.put(grid, 1, 1, Quasigrove.NONE);
                break;
        }
    }

    @Sentence("GRIDS: a change of one GRID changes no other one")
    void changesOfOneGrid() {
        for (int changed = 0; changed < 3; changed++) {
            for (int how = 0; how < 4; how++) {
                fresh();
                madeOf("012/120/201");
                madeOf("012/201/120");
                madeOf("120/012/201");
                String[] before = {shown(0), shown(1), shown(2)};
                change(changed, how);
                for (int grid = 0; grid < 3; grid++) {
                    int other = grid;
                    due(other != changed, () -> shown(other).equals(before[other]));
                }
            }
        }
    }

    @Sentence("GRIDS: A SQUARE is a GRID without empty cells: with one empty cell, whichever, it is none")
    void oneEmptyCell() {
        for (int n : ORDERS) {
            for (Map.Entry<String, GridCall> call : squareCalls().entrySet()) {
                if (n == 5 && call.getKey().equals("critical")) {
                    continue;
                }
                fresh();
                type("x=x");
                madeOf(n % 2 == 0 ? "0123/1032/2301/3210" : "012/120/201");
                int square = madeOf(String.join("/", SQUARES[n]));
                boolean noMate = call.getKey().equals("mate") && (n == 2 || n == 5);
                for (int cell = 0; cell < n * n; cell++) {
                    int row = cell / n;
                    int column = cell % n;
                    int sign = g.put(square, row, column, Quasigrove.NONE);
                    state(call.getKey() + " with the cell " + cell + " empty", () -> call.getValue().on(g, square));
                    g.put(square, row, column, sign);
                }
                if (noMate) {
                    state(call.getKey() + " without a mate", () -> call.getValue().on(g, square));
                } else {
                    due(call.getKey() + " again", true, () -> !String.valueOf(call.getValue().on(g, square)).isEmpty());
                }
            }
        }
    }

    @Sentence("GRIDS: A SQUARE is a GRID without empty cells: an empty GRID of any ORDER is none")
    void allCellsEmpty() {
        for (int n : ORDERS) {
            for (Map.Entry<String, GridCall> call : squareCalls().entrySet()) {
                fresh();
                type("x=x");
                g.linear(n, 1, 1, 0);
                int grid = g.grid(n);
                state(call.getKey() + " of order " + n, () -> call.getValue().on(g, grid));
            }
        }
    }

    // ---- what is refused, and what is asked

    @Sentence("Terms: all else is asked, and changes nothing: neither the GRIDS, nor the tape, nor what is asked again")
    void askingChangesNothing() {
        Map<String, GridCall> calls = gridCalls();
        calls.keySet().removeIf(name -> name.matches("put|isotope|conjugate|turn|stir|fill|mate"));
        for (String grid : new String[] {"0123/1032/2301/3210", "01.3/10.2/23../3210", "012/120/201", "012/1../2.."}) {
            for (Map.Entry<String, GridCall> call : calls.entrySet()) {
                fresh();
                madeOf(grid);
                madeOf("01/1.");
                type("(xy)=(yx)");
                String before = Groves.shown(g);
                String first = Check.told(() -> call.getValue().on(g, 0));
                due(call.getKey() + " again", first, () -> call.getValue().on(g, 0));
                due(call.getKey() + " changes nothing", before, () -> Groves.shown(g));
                due(call.getKey() + " leaves the tape", 9, () -> g.wipe());
            }
        }
    }

    @Sentence("Terms: all else is asked, and changes nothing: calls of two GRIDS leave both")
    void askingOfTwoChangesNothing() {
        for (Map.Entry<String, PairCall> call : pairCalls().entrySet()) {
            fresh();
            madeOf("012/120/201");
            madeOf("012/201/120");
            String first = Check.told(() -> call.getValue().on(g, 0, 1));
            due(call.getKey() + " again", first, () -> call.getValue().on(g, 0, 1));
            due("012/120/201 012/201/120 0", () -> Groves.shown(g));
        }
    }

    @Sentence("Terms: all else is asked, and changes nothing: no answer depends on what was asked of a GRID of another ORDER before")
    void answersAfterOtherAnswers() {
        Map<String, GridCall> calls = gridCalls();
        calls.keySet().removeIf(name -> name.matches("put|isotope|conjugate|turn|stir|fill|mate"));
        String[] larger = {"01234/12340/23401/34012/40123", "0123/1032/2301/3..0"};
        String smaller = "012/120/201";
        for (Map.Entry<String, GridCall> call : calls.entrySet()) {
            for (String other : larger) {
                String afterNone = answer(smaller, other, call.getValue(), null);
                String otherAfterNone = answer(other, smaller, call.getValue(), null);
                for (Map.Entry<String, GridCall> before : calls.entrySet()) {
                    String name = call.getKey() + " behind " + before.getKey();
                    due(name, afterNone, () -> answer(smaller, other, call.getValue(), before.getValue()));
                    due(name, otherAfterNone, () -> answer(other, smaller, call.getValue(), before.getValue()));
                }
            }
        }
    }

    /** What a call answers for the grid 1, after another one was called for the grid 2. */
    private String answer(String grid, String other, GridCall call, GridCall before) {
        fresh();
        madeOf("012/120/201");
        madeOf(grid);
        madeOf(other);
        type("(xy)=(yz)");
        if (before != null) {
            Check.told(() -> before.on(g, 2));
        }
        return Check.told(() -> call.on(g, 1));
    }

    @Sentence("GRIDS: a call of two GRIDS may be told the same number twice")
    void theSameGridTwice() {
        for (int n : ORDERS) {
            fresh();
            int square = madeOf(String.join("/", SQUARES[n]));
            due(0, () -> g.distance(square, square));
            due(false, () -> g.areMates(square, square));
            due(true, () -> g.isotopies(square, square) > 0);
        }
    }
}
