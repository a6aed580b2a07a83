import java.util.ArrayList;
import java.util.List;

/**
 * What each refused call throws, if several exceptions apply too, and that it changes
 * nothing. Each refusal has a grove of its own, which is looked at before and after.
 */
public final class RefusalTest extends Scene {
    private static final int SQUARE = 0;
    private static final int ROW_FULL = 1;
    private static final int UNFILLABLE = 2;
    private static final int SMALL = 3;
    private static final int LARGE = 4;
    private static final int BLANK = 5;
    private static final int MATELESS = 6;
    private static final String[] GRIDS = {"012/120/201", "012/1../.0.", "01./..2/...", "01/10",
        "01234/10342/23401/34120/42013", ".../.../...", "0123/1230/2301/3012"};
    private static final String IDENTITY = "(xy)=(yx)";
    private static final String FULL_TAPE = "((((((((((((((((((((((((((((((((((((((((";

    private String tape = IDENTITY;
    private int grids = GRIDS.length;

    public static void main(String[] args) {
        runAll(RefusalTest.class);
    }

    private interface Call {
        Object on(Quasigrove g);
    }

    private void refused(String exception, Call call) {
        fresh();
        for (String grid : GRIDS) {
            madeOf(grid);
        }
        Groves.makeUpTo(g, grids);
        Groves.type(g, tape);
        String before = seen();
        due("throws." + exception, () -> call.on(g));
        due("changes nothing", before, () -> seen());
        due("the tape is as long as before", tape.length(), () -> g.wipe());
    }

    /** What the tape says is seen by where it breaks in two squares. */
    private String seen() {
        return Groves.shown(g) + " " + Check.told(() -> g.breaks(SQUARE)) + " " + Check.told(() -> g.breaks(LARGE));
    }

    private void ranges(Call... calls) {
        for (Call call : calls) {
            refused("IndexOutOfBoundsException", call);
        }
    }

    private void arguments(Call... calls) {
        for (Call call : calls) {
            refused("IllegalArgumentException", call);
        }
    }

    private void states(Call... calls) {
        for (Call call : calls) {
            refused("IllegalStateException", call);
        }
    }

    // ---- one exception applies

    @Sentence("Terms: A call that throws an exception changes nothing: 1 to 9")
    void gridsOneReason() {
        arguments(g -> g.grid(1), g -> g.grid(6), g -> g.linear(3, 3, 1, 0), g -> g.linear(3, 1, 1, 5),
                g -> g.put(SQUARE, 0, 0, 3), g -> g.put(SQUARE, 0, 0, -2), g -> g.put(BLANK, 2, 2, 3),
                g -> g.isotope(SQUARE, 211, 210, 210), g -> g.isotope(SQUARE, 210, 3210, 210),
                g -> g.isotope(SQUARE, 210, 210, 213), g -> g.conjugate(SQUARE, 6), g -> g.conjugate(SQUARE, -1),
                g -> g.of(SQUARE, 3), g -> g.of(SQUARE, -1), g -> g.distance(SQUARE, SMALL),
                g -> g.distance(LARGE, SQUARE));
        ranges(g -> g.put(7, 0, 0, 0), g -> g.put(BLANK, 3, 0, 0), g -> g.put(BLANK, 0, -1, 0),
                g -> g.isotope(7, 210, 210, 210), g -> g.conjugate(-1, 0), g -> g.cell(SQUARE, 3, 0),
                g -> g.cell(SQUARE, 0, 3), g -> g.of(7, 0), g -> g.distance(SQUARE, 7), g -> g.distance(7, SQUARE));
        states(g -> g.put(SQUARE, 0, 0, 1), g -> g.put(ROW_FULL, 1, 1, 1), g -> g.put(ROW_FULL, 2, 2, 2),
                g -> g.put(UNFILLABLE, 0, 2, 2));
    }

    @Sentence("Terms: A call that throws an exception changes nothing: 10 to 18")
    void movesAndFillingOneReason() {
        arguments(g -> g.turn(SQUARE, 1, 1, 0), g -> g.stir(SQUARE, -1, 1), g -> g.stir(SQUARE, 1, 0),
                g -> g.stir(SQUARE, 1, 51), g -> g.fills(SQUARE, 0), g -> g.fills(SQUARE, 1001),
                g -> g.fillsAnew(SQUARE, 0), g -> g.fillsAnew(SQUARE, 1001));
        ranges(g -> g.turn(7, 0, 1, 0), g -> g.turn(SQUARE, 3, 0, 0), g -> g.turn(SQUARE, 0, 3, 0),
                g -> g.turn(SQUARE, 0, 1, 3), g -> g.stir(7, 1, 1), g -> g.can(7, 0, 0), g -> g.can(SQUARE, -1, 0),
                g -> g.can(SQUARE, 0, 3), g -> g.fills(7, 1), g -> g.fillsAnew(7, 1), g -> g.fill(7),
                g -> g.forced(7), g -> g.logic(7), g -> g.critical(7));
        states(g -> g.turn(ROW_FULL, 0, 1, 0), g -> g.turn(ROW_FULL, 2, 0, 0), g -> g.turn(BLANK, 0, 1, 0),
                g -> g.stir(ROW_FULL, 1, 1), g -> g.fill(UNFILLABLE), g -> g.critical(BLANK), g -> g.critical(LARGE));
    }

    @Sentence("Terms: A call that throws an exception changes nothing: 19 to 27")
    void lawsOneReason() {
        arguments(g -> g.type('x', 0), g -> g.type('x', 9), g -> g.type('a', 1), g -> g.type('x' | 'a' << 8, 2),
                g -> g.nucleus(SQUARE, 4), g -> g.nucleus(SQUARE, -1), g -> g.closed(SQUARE, 0),
                g -> g.closed(SQUARE, 8), g -> g.count(SQUARE, 5), g -> g.count(SQUARE, -1));
        ranges(g -> g.breaks(7), g -> g.unit(7), g -> g.nucleus(7, 0), g -> g.closed(7, 1), g -> g.count(7, 0),
                g -> g.isotopies(7, SQUARE), g -> g.isotopies(SQUARE, 7));
        states(g -> g.breaks(ROW_FULL), g -> g.unit(ROW_FULL), g -> g.nucleus(ROW_FULL, 0),
                g -> g.closed(ROW_FULL, 1), g -> g.count(ROW_FULL, 0), g -> g.isotopies(ROW_FULL, SQUARE),
                g -> g.isotopies(SQUARE, ROW_FULL));
    }

    @Sentence("Terms: A call that throws an exception changes nothing: 28 to 33")
    void matesAndTheGameOneReason() {
        arguments(g -> g.parity(SQUARE, 3), g -> g.parity(SQUARE, -1));
        ranges(g -> g.transversals(7), g -> g.mates(7), g -> g.mate(7), g -> g.areMates(7, SQUARE),
                g -> g.areMates(SQUARE, 7), g -> g.parity(7, 0), g -> g.wins(7));
        states(g -> g.transversals(ROW_FULL), g -> g.mates(ROW_FULL), g -> g.mate(ROW_FULL), g -> g.mate(SMALL),
                g -> g.mate(MATELESS), g -> g.areMates(ROW_FULL, SQUARE), g -> g.areMates(SQUARE, ROW_FULL),
                g -> g.parity(ROW_FULL, 0), g -> g.wins(BLANK));
    }

    @Sentence("Terms: A call that throws an exception changes nothing: 12 GRIDS")
    void noRoomOneReason() {
        grids = 12;
        states(g -> g.grid(2), g -> g.grid(5), g -> g.linear(3, 1, 1, 0), g -> g.isotope(SQUARE, 210, 210, 210),
                g -> g.isotope(BLANK, 21, 21, 21), g -> g.conjugate(SQUARE, 5), g -> g.conjugate(ROW_FULL, 0),
                g -> g.mate(SQUARE));
        ranges(g -> g.cell(12, 0, 0), g -> g.of(12, 0));
    }

    @Sentence("Terms: A call that throws an exception changes nothing: the tape of 40, and one that is no identity")
    void tapeOneReason() {
        tape = FULL_TAPE;
        states(g -> g.type('x', 1), g -> g.type(Groves.packed("(((((((("), 8));
        arguments(g -> g.breaks(SQUARE));
        tape = FULL_TAPE.substring(7);
        states(g -> g.type(Groves.packed("(((((((("), 8), g -> g.type(Groves.packed("xxxxxxx)"), 8));
        for (String wrong : new String[] {"", "x=", "x=y)", "x", ")"}) {
            tape = wrong;
            arguments(g -> g.breaks(SQUARE));
        }
    }

    // ---- several exceptions apply

    @Sentence("Terms: the one that its throws clause names first is thrown: grid, of a wrong ORDER, of 12 GRIDS")
    void orderOfGrid() {
        grids = 12;
        arguments(g -> g.grid(1), g -> g.grid(6), g -> g.grid(0), g -> g.grid(-1));
    }

    @Sentence("Terms: the one that its throws clause names first is thrown: linear, of what is wrong, of 12 GRIDS")
    void orderOfLinear() {
        grids = 12;
        arguments(g -> g.linear(1, 1, 1, 0), g -> g.linear(6, 1, 1, 0), g -> g.linear(3, -1, 1, 0),
                g -> g.linear(3, 1, 5, 0), g -> g.linear(3, 1, 1, 5), g -> g.linear(3, 0, 1, 0),
                g -> g.linear(4, 1, 2, 0));
    }

    @Sentence("Terms: the one that its throws clause names first is thrown: put, of a row that is none and a wrong SIGN")
    void orderOfPutRangeBeforeArgument() {
        ranges(g -> g.put(7, 0, 0, 9), g -> g.put(-1, 0, 0, -2), g -> g.put(BLANK, 3, 0, 3),
                g -> g.put(BLANK, 0, 3, -2), g -> g.put(BLANK, -1, 0, 3), g -> g.put(BLANK, 0, -1, 3));
    }

    @Sentence("Terms: the one that its throws clause names first is thrown: put, of a row that is none and a SIGN that is there")
    void orderOfPutRangeBeforeState() {
        ranges(g -> g.put(SQUARE, 3, 0, 0), g -> g.put(SQUARE, 0, 3, 0), g -> g.put(SQUARE, -1, 0, 1),
                g -> g.put(SQUARE, 0, -1, 1));
    }

    @Sentence("Terms: the one that its throws clause names first is thrown: isotope")
    void orderOfIsotope() {
        ranges(g -> g.isotope(7, 0, 0, 0), g -> g.isotope(-1, 211, 210, 210));
        grids = 12;
        ranges(g -> g.isotope(12, 210, 210, 210), g -> g.isotope(12, 0, 0, 0), g -> g.isotope(-1, 210, 210, 210));
        arguments(g -> g.isotope(SQUARE, 0, 210, 210), g -> g.isotope(SQUARE, 210, 0, 210),
                g -> g.isotope(SQUARE, 210, 210, 0), g -> g.isotope(SMALL, 210, 10, 10));
    }

    @Sentence("Terms: the one that its throws clause names first is thrown: conjugate")
    void orderOfConjugate() {
        ranges(g -> g.conjugate(7, 6), g -> g.conjugate(-1, -1));
        grids = 12;
        ranges(g -> g.conjugate(12, 0), g -> g.conjugate(12, 6));
        arguments(g -> g.conjugate(SQUARE, 6), g -> g.conjugate(SQUARE, -1));
    }

    @Sentence("Terms: the one that its throws clause names first is thrown: of, and distance to what is no GRID")
    void orderOfOf() {
        ranges(g -> g.of(7, 3), g -> g.of(-1, -1), g -> g.distance(SMALL, 7), g -> g.distance(7, SMALL));
    }

    @Sentence("Terms: the one that its throws clause names first is thrown: turn, of a line that is none and the same rows")
    void orderOfTurnRangeBeforeArgument() {
        ranges(g -> g.turn(7, 0, 0, 0), g -> g.turn(SQUARE, 3, 3, 0), g -> g.turn(SQUARE, -1, -1, 0),
                g -> g.turn(SQUARE, 1, 1, 3), g -> g.turn(SQUARE, 1, 1, -1));
    }

    @Sentence("Terms: the one that its throws clause names first is thrown: turn, of a line that is none and an empty cell")
    void orderOfTurnRangeBeforeState() {
        ranges(g -> g.turn(BLANK, 3, 0, 0), g -> g.turn(BLANK, 0, 3, 0), g -> g.turn(BLANK, 0, 1, 3),
                g -> g.turn(ROW_FULL, 0, 1, 3), g -> g.turn(BLANK, 0, 0, 3), g -> g.turn(ROW_FULL, 1, -1, 0));
    }

    @Sentence("Terms: the one that its throws clause names first is thrown: turn, of the same row with an empty cell")
    void orderOfTurnArgumentBeforeState() {
        arguments(g -> g.turn(BLANK, 0, 0, 0), g -> g.turn(ROW_FULL, 1, 1, 2));
    }

    @Sentence("Terms: the one that its throws clause names first is thrown: stir")
    void orderOfStir() {
        ranges(g -> g.stir(7, -1, 1), g -> g.stir(7, 0, 0), g -> g.stir(-1, 0, 51));
        arguments(g -> g.stir(ROW_FULL, -1, 1), g -> g.stir(ROW_FULL, 0, 0), g -> g.stir(BLANK, 0, 51));
    }

    @Sentence("Terms: the one that its throws clause names first is thrown: fills and fillsAnew")
    void orderOfFills() {
        ranges(g -> g.fills(7, 0), g -> g.fills(-1, 1001), g -> g.fillsAnew(7, 0), g -> g.fillsAnew(-1, 1001));
    }

    @Sentence("Terms: the one that its throws clause names first is thrown: type, of a wrong n or character and a full tape")
    void orderOfType() {
        tape = FULL_TAPE;
        arguments(g -> g.type('x', 0), g -> g.type('x', 9), g -> g.type('a', 1), g -> g.type('x', -1),
                g -> g.type(Groves.packed("xxxxxxxa"), 8), g -> g.type(Groves.packed("xxxxxxxx"), 9));
        tape = FULL_TAPE.substring(1);
        arguments(g -> g.type(Groves.packed("xa"), 2), g -> g.type(Groves.packed("ax"), 2));
    }

    @Sentence("Terms: the one that its throws clause names first is thrown: breaks")
    void orderOfBreaks() {
        tape = "x=";
        ranges(g -> g.breaks(7), g -> g.breaks(-1));
        arguments(g -> g.breaks(ROW_FULL), g -> g.breaks(BLANK));
    }

    @Sentence("Terms: the one that its throws clause names first is thrown: nucleus, closed, count and parity")
    void orderOfLaws() {
        ranges(g -> g.nucleus(7, 4), g -> g.nucleus(-1, -1), g -> g.closed(7, 0), g -> g.closed(-1, 32),
                g -> g.count(7, 5), g -> g.count(-1, -1), g -> g.parity(7, 3), g -> g.parity(-1, -1));
        arguments(g -> g.nucleus(BLANK, 4), g -> g.nucleus(ROW_FULL, -1), g -> g.closed(BLANK, 0),
                g -> g.closed(ROW_FULL, 8), g -> g.count(BLANK, 5), g -> g.count(ROW_FULL, -1),
                g -> g.parity(BLANK, 3), g -> g.parity(ROW_FULL, -1));
    }

    @Sentence("Terms: the one that its throws clause names first is thrown: isotopies and areMates")
    void orderOfPairs() {
        ranges(g -> g.isotopies(BLANK, 7), g -> g.isotopies(7, BLANK), g -> g.areMates(BLANK, 7),
                g -> g.areMates(7, BLANK));
        states(g -> g.isotopies(BLANK, SMALL), g -> g.isotopies(SMALL, BLANK), g -> g.areMates(BLANK, SMALL),
                g -> g.areMates(SMALL, BLANK));
    }

    @Sentence("Terms: if several reasons for one exception apply, it is thrown: critical and mate")
    void severalReasons() {
        fresh();
        List<Integer> numbers = new ArrayList<>();
        numbers.add(g.grid(5));
        state("no SQUARE, of the ORDER 5", () -> g.critical(numbers.get(0)));
        numbers.add(madeOf("01/10"));
        Groves.makeUpTo(g, 12);
        state("no SQUARE, of 12 GRIDS", () -> g.mate(numbers.get(0)));
        state("no MATE, of 12 GRIDS", () -> g.mate(numbers.get(1)));
        range("no GRID, of 12 GRIDS", () -> g.mate(12));
    }
}
