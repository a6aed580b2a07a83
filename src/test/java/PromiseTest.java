/** For each promise its ordinary answers, the edges that the document names, and wrong inputs. */
public final class PromiseTest {
    private static Quasigrove g;

    public static void main(String[] args) {
        Check.begin();
        promise1To3();
        put();
        isotope();
        conjugate();
        cellOfDistance();
        turn();
        stir();
        can();
        fills();
        fill();
        forcedAndLogic();
        critical();
        typeAndWipe();
        fault();
        breaks();
        unit();
        nucleus();
        closed();
        count();
        isotopies();
        transversalsAndMates();
        areMates();
        parity();
        wins();
        Check.end();
    }

    // ---- how the tests write

    private static void fresh() {
        g = new Quasigrove();
    }

    private static int made(String... rows) {
        return Groves.made(g, rows);
    }

    private static String shown(int grid) {
        return Groves.shown(g, grid);
    }

    private static void type(String text) {
        Groves.type(g, text);
    }

    private static void full() {
        fresh();
        Groves.makeUpTo(g, Groves.MOST_GRIDS);
    }

    // ---- GRIDS

    private static void promise1To3() {
        fresh();
        Check.range("1: of on a new object", () -> g.of(0, 0));
        Check.due("1: wipe on a new object", 0, () -> g.wipe());
        Check.due("1: fault on a new object", 0, () -> g.fault());
        for (int i = 0; i < 12; i++) {
            int number = i;
            Check.due("2: grid", number, () -> g.grid(2 + number % 4));
            Check.due("2: the order", 2 + number % 4, () -> g.of(number, 0));
            Check.due("2: no signs", 0, () -> g.of(number, 1));
        }
        Check.due("2: an empty grid", "../..", () -> shown(0));
        Check.state("2: a grid too many", () -> g.grid(2));
        Check.argument("2: order 1, of many grids", () -> g.grid(1));
        Check.argument("2: order 6, of many grids", () -> g.grid(6));
        Check.state("3: a grid too many", () -> g.linear(2, 1, 1, 0));
        Check.argument("3: no square, of many grids", () -> g.linear(2, 2, 1, 0));

        fresh();
        Check.argument("2: order 1", () -> g.grid(1));
        Check.argument("2: order -5", () -> g.grid(-5));
        Check.argument("2: order 6", () -> g.grid(6));
        Check.due("3: linear", 0, () -> g.linear(3, 1, 2, 1));
        Check.due("3: its cells", "102/210/021", () -> shown(0));
        Check.due("3: factors beyond the order", 1, () -> g.linear(2, 3, 3, 4));
        Check.due("3: its cells", "01/10", () -> shown(1));
        Check.due("3: order 4", 2, () -> g.linear(4, 3, 1, 2));
        Check.due("3: its cells", "2301/1230/0123/3012", () -> shown(2));
        Check.due("3: order 5", 3, () -> g.linear(5, 4, 3, 4));
        Check.argument("3: a by 2", () -> g.linear(4, 2, 1, 0));
        Check.argument("3: b by 2", () -> g.linear(4, 1, 2, 0));
        Check.argument("3: a 0", () -> g.linear(5, 0, 1, 0));
        Check.argument("3: b 0", () -> g.linear(5, 1, 0, 0));
        Check.argument("3: a 3 of order 3", () -> g.linear(3, 3, 1, 0));
        Check.argument("3: a -1", () -> g.linear(3, -1, 1, 0));
        Check.argument("3: b 5", () -> g.linear(3, 1, 5, 0));
        Check.argument("3: d 5", () -> g.linear(3, 1, 1, 5));
        Check.argument("3: d -1", () -> g.linear(3, 1, 1, -1));
        Check.argument("3: order 1", () -> g.linear(1, 1, 1, 0));
        Check.argument("3: order 6", () -> g.linear(6, 1, 1, 0));
        Check.argument("3: order 0", () -> g.linear(0, 1, 1, 0));
        Check.due("3: what threw made nothing", 4, () -> g.grid(2));
    }

    private static void put() {
        fresh();
        g.grid(3);
        Check.due("4: put", -1, () -> g.put(0, 1, 2, 2));
        Check.due("4: the same again", 2, () -> g.put(0, 1, 2, 2));
        Check.due("4: another one", 2, () -> g.put(0, 1, 2, 0));
        Check.state("4: the row has it", () -> g.put(0, 1, 0, 0));
        Check.state("4: the column has it", () -> g.put(0, 0, 2, 0));
        Check.due("4: the sign that went can come again", -1, () -> g.put(0, 1, 0, 2));
        Check.state("4: over another sign, the row has it", () -> g.put(0, 1, 0, 0));
        Check.due("4: what threw changed nothing", ".../2.0/...", () -> shown(0));
        Check.due("4: empties", 2, () -> g.put(0, 1, 0, -1));
        Check.due("4: empties an empty one", -1, () -> g.put(0, 1, 0, -1));
        Check.due("4: cells", ".../..0/...", () -> shown(0));
        Check.argument("4: sign 3", () -> g.put(0, 0, 0, 3));
        Check.argument("4: sign -2", () -> g.put(0, 0, 0, -2));
        Check.range("4: grid 1", () -> g.put(1, 0, 0, 0));
        Check.range("4: grid -1", () -> g.put(-1, 0, 0, 0));
        Check.range("4: row 3", () -> g.put(0, 3, 0, 0));
        Check.range("4: row -1", () -> g.put(0, -1, 0, 0));
        Check.range("4: column 3, sign too", () -> g.put(0, 0, 3, 7));
        Check.range("4: column -1", () -> g.put(0, 0, -1, 0));
    }

    private static void isotope() {
        fresh();
        made("0.2", "1..", ".0.");
        Check.due("5: of rows", 1, () -> g.isotope(0, 21, 210, 210));
        // 0 becomes 1, 1 becomes 2, 2 becomes 0
        Check.due("5: rows", ".0./0.2/1..", () -> shown(1));
        Check.due("5: of columns", 2, () -> g.isotope(0, 210, 21, 210));
        Check.due("5: columns", "20./.1./..0", () -> shown(2));
        Check.due("5: of signs", 3, () -> g.isotope(0, 210, 210, 21));
        Check.due("5: signs", "1.0/2../.1.", () -> shown(3));
        g.put(0, 2, 2, 1);
        Check.due("5: the new one stays", "1.0/2../.1.", () -> shown(3));
        Check.range("5: grid 4", () -> g.isotope(4, 210, 210, 210));
        Check.argument("5: rows", () -> g.isotope(0, 211, 210, 210));
        Check.argument("5: columns", () -> g.isotope(0, 210, 10, 210));
        Check.argument("5: signs", () -> g.isotope(0, 210, 210, 213));
        Check.argument("5: four digits", () -> g.isotope(0, 3210, 210, 210));
        Check.argument("5: a thousand too many", () -> g.isotope(0, 1210, 210, 210));
        Check.argument("5: below 0", () -> g.isotope(0, 210, -210, 210));
        full();
        Check.state("5: a grid too many", () -> g.isotope(3, 10, 1, 10));
        Check.argument("5: no map, of many grids", () -> g.isotope(3, 10, 11, 10));
        Check.range("5: no grid", () -> g.isotope(12, 10, 11, 10));
    }

    private static void conjugate() {
        fresh();
        made("01.", ".2.", "2..");
        String[] due = {"01./.2./2..", "0.2/12./...", "01./..1/..0", "0../.0./21.", "0.2/.01/...", "0../1../.10"};
        for (int how = 0; how < 6; how++) {
            int k = how;
            Check.due("6: conjugate " + k, 1 + k, () -> g.conjugate(0, k));
            Check.due("6: cells of " + k, due[k], () -> shown(1 + k));
        }
        g.put(0, 0, 0, -1);
        Check.due("6: the new one stays", due[0], () -> shown(1));
        Check.argument("6: how 6", () -> g.conjugate(0, 6));
        Check.argument("6: how -1", () -> g.conjugate(0, -1));
        Check.range("6: grid 7", () -> g.conjugate(7, 6));
        full();
        Check.state("6: a grid too many", () -> g.conjugate(0, 0));
        Check.argument("6: how 6, of many grids", () -> g.conjugate(0, 6));
    }

    private static void cellOfDistance() {
        fresh();
        made("01.", "..2", "...");
        made("01.", ".0.", "..1");
        made("..", "..");
        Check.due("7: a sign", 2, () -> g.cell(0, 1, 2));
        Check.due("7: the sign 0", 0, () -> g.cell(0, 0, 0));
        Check.due("7: an empty cell", -1, () -> g.cell(0, 2, 1));
        Check.range("7: row 3", () -> g.cell(0, 3, 0));
        Check.range("7: column -1", () -> g.cell(0, 0, -1));
        Check.range("7: row 2 of order 2", () -> g.cell(2, 2, 0));
        Check.range("7: column 2 of order 2", () -> g.cell(2, 0, 2));
        Check.range("7: grid 3", () -> g.cell(3, 0, 0));
        Check.due("8: order", 3, () -> g.of(0, 0));
        Check.due("8: signs", 3, () -> g.of(0, 1));
        Check.due("8: dead cells", 1, () -> g.of(0, 2));
        Check.due("8: signs, none", 0, () -> g.of(2, 1));
        Check.due("8: dead cells, none", 0, () -> g.of(2, 2));
        Check.argument("8: what 3", () -> g.of(0, 3));
        Check.argument("8: what -1", () -> g.of(0, -1));
        Check.range("8: grid 3", () -> g.of(3, 5));
        Check.range("8: the largest number", () -> g.of(Integer.MAX_VALUE, 0));
        Check.range("8: the least number", () -> g.of(Integer.MIN_VALUE, 0));
        // unlike: (1, 1), where one is empty, (1, 2) and (2, 2) likewise
        Check.due("9: an empty cell is unlike a sign", 3, () -> g.distance(0, 1));
        Check.due("9: with itself", 0, () -> g.distance(1, 1));
        Check.argument("9: orders", () -> g.distance(0, 2));
        Check.range("9: the first", () -> g.distance(3, 0));
        Check.range("9: the other", () -> g.distance(0, -1));
    }

    // ---- moves

    private static void turn() {
        fresh();
        g.linear(4, 1, 1, 0);
        Check.due("10: two columns", 2, () -> g.turn(0, 0, 2, 1));
        Check.due("10: exchanged", "0321/1230/2103/3012", () -> shown(0));
        Check.due("10: from there", 2, () -> g.turn(0, 1, 0, 0));
        Check.due("10: exchanged", "1320/0231/2103/3012", () -> shown(0));
        made("....", "0123", "....", "1230");
        Check.due("10: other rows may be empty", 4, () -> g.turn(1, 3, 1, 2));
        Check.due("10: all of both", "..../1230/..../0123", () -> shown(1));
        Check.due("10: what the columns have stays", 12, () -> g.can(1, 0, 0));
        Check.argument("10: the same rows", () -> g.turn(0, 2, 2, 0));
        Check.argument("10: the same rows, empty", () -> g.turn(1, 2, 2, 0));
        Check.range("10: row 4, twice", () -> g.turn(0, 4, 4, 0));
        Check.range("10: other -1", () -> g.turn(0, 0, -1, 0));
        Check.range("10: column 4", () -> g.turn(0, 0, 0, 4));
        Check.range("10: grid 2", () -> g.turn(2, 0, 1, 0));
        Check.state("10: the first has an empty cell", () -> g.turn(1, 0, 1, 0));
        Check.state("10: the second has an empty cell", () -> g.turn(1, 1, 2, 0));
        Check.due("10: what threw changed nothing", "..../1230/..../0123", () -> shown(1));
    }

    private static void stir() {
        fresh();
        for (int n = 2; n <= 5; n++) {
            g.linear(n, 1, 1, 0);
        }
        Check.due("11: order 2", 12345, () -> g.stir(0, 0, 1));
        Check.due("11: order 2", "10/01", () -> shown(0));
        Check.due("11: order 3", 191421147, () -> g.stir(1, 2026, 1));
        Check.due("11: order 3", "120/012/201", () -> shown(1));
        Check.due("11: order 4", 365869238, () -> g.stir(2, 2026, 4));
        Check.due("11: order 4", "2301/1032/3120/0213", () -> shown(2));
        Check.due("11: order 5", 169580625, () -> g.stir(3, 2026, 3));
        Check.due("11: goes on", 365869238, () -> g.stir(3, 169580625, 1));
        Check.due("11: order 5", "12340/01234/23401/40123/34012", () -> shown(3));
        Check.due("11: the highest seed", 1043980748, () -> g.stir(0, Integer.MAX_VALUE, 1));
        Check.due("11: times 50", true, () -> g.stir(2, 1, 50) >= 0);
        Check.argument("11: seed -1", () -> g.stir(0, -1, 1));
        Check.argument("11: times 0", () -> g.stir(0, 1, 0));
        Check.argument("11: times 51", () -> g.stir(0, 1, 51));
        Check.range("11: grid 4", () -> g.stir(4, -1, 0));
        g.put(3, 4, 4, -1);
        Check.state("11: no square", () -> g.stir(3, 1, 1));
        Check.argument("11: no square, times 51", () -> g.stir(3, 1, 51));
        Check.due("11: what threw changed nothing", "12340/01234/23401/40123/3401.", () -> shown(3));
    }

    // ---- filling

    private static void can() {
        fresh();
        made("01..", "....", "3...", "..3.");
        Check.due("12: one", 4, () -> g.can(0, 0, 2));
        Check.due("12: the sign 3 too", 12, () -> g.can(0, 0, 3));
        Check.due("12: all but two", 6, () -> g.can(0, 1, 0));
        Check.due("12: not of a cell that has a sign", 0, () -> g.can(0, 0, 0));
        Check.range("12: row 4", () -> g.can(0, 4, 0));
        Check.range("12: column 4", () -> g.can(0, 0, 4));
        Check.range("12: row -1", () -> g.can(0, -1, 0));
        Check.range("12: grid 1", () -> g.can(1, 0, 0));
        made("01.", "..2", "...");
        Check.due("12: none", 0, () -> g.can(1, 0, 2));
    }

    private static void fills() {
        fresh();
        made("..", "..");
        made("...", "...", "...");
        made("....", "....", "....", "....");
        made(".....", ".....", ".....", ".....", ".....");
        made("01234", "1....", "2....", "3....", "4....");
        made("01.", "..2", "...");
        made("012", "120", "201");
        made("0123", "1...", "2...", "3...");
        int[] due = {2, 12, 576, 1000, 56, 0, 1, 4};
        for (int grid = 0; grid < due.length; grid++) {
            int number = grid;
            Check.due("13: fills " + number, due[number], () -> g.fills(number, 1000));
            Check.due("14: fillsAnew " + number, due[number], () -> g.fillsAnew(number, 1000));
        }
        for (int most : new int[] {1, 11, 12, 13}) {
            Check.due("13: most " + most, Math.min(12, most), () -> g.fills(1, most));
            Check.due("14: most " + most, Math.min(12, most), () -> g.fillsAnew(1, most));
        }
        Check.due("13 and 14: change nothing", ".../.../...", () -> shown(1));
        Check.argument("13: most 0", () -> g.fills(0, 0));
        Check.argument("13: most 1001", () -> g.fills(0, 1001));
        Check.range("13: grid 8", () -> g.fills(8, 0));
        Check.argument("14: most 0", () -> g.fillsAnew(0, 0));
        Check.argument("14: most 1001", () -> g.fillsAnew(0, 1001));
        Check.range("14: grid -1", () -> g.fillsAnew(-1, 0));
    }

    private static void fill() {
        fresh();
        made(".....", ".....", ".....", ".....", ".....");
        made("....", "....", ".1..", "....");
        made("01.", "..2", "...");
        made("10", "01");
        made("...", "...", "0..");
        Check.due("15: all empty", 25, () -> g.fill(0));
        Check.due("15: the lowest of order 5", "01234/10342/23401/34120/42013", () -> shown(0));
        Check.due("15: one sign", 15, () -> g.fill(1));
        // the row 2 cannot begin with 2, though nothing in its lines is against it
        Check.due("15: the lowest with it", "0213/1032/3120/2301", () -> shown(1));
        Check.state("15: none fills it", () -> g.fill(2));
        Check.due("15: what threw changed nothing", "01./..2/...", () -> shown(2));
        Check.due("15: a square", 0, () -> g.fill(3));
        Check.due("15: a square stays", "10/01", () -> shown(3));
        Check.due("15: a sign that comes late", 8, () -> g.fill(4));
        Check.due("15: the lowest with it", "102/210/021", () -> shown(4));
        Check.range("15: grid 5", () -> g.fill(5));
    }

    private static void forcedAndLogic() {
        fresh();
        made("01.", "...", "...");
        Check.due("16: no other sign", 22, () -> g.forced(0));
        Check.due("17: one", 1, () -> g.logic(0));
        made("..0..", "...0.", ".....", ".....", "12...");
        Check.due("16: no other cell of the row", 240, () -> g.forced(1));
        g.conjugate(1, 1);
        Check.due("16: no other cell of the column", 240, () -> g.forced(2));
        made("01.", "1..", "...");
        Check.due("17: all", 6, () -> g.logic(3));
        Check.due("17: changes nothing", "01./1../...", () -> shown(3));
        made("0.", ".1");
        Check.due("16: nothing can be put", -1, () -> g.forced(4));
        Check.due("17: nothing can be put", 0, () -> g.logic(4));
        made("....", "....", "....", "....");
        Check.due("16: empty", -1, () -> g.forced(5));
        Check.due("17: empty", 0, () -> g.logic(5));
        made("012", "120", "201");
        Check.due("16: full", -1, () -> g.forced(6));
        Check.due("17: full", 0, () -> g.logic(6));
        made("0.", "..");
        Check.due("16: the lowest cell", 11, () -> g.forced(7));
        Check.due("17: order 2", 3, () -> g.logic(7));
        Check.range("16: grid 8", () -> g.forced(8));
        Check.range("17: grid -1", () -> g.logic(-1));
    }

    private static void critical() {
        fresh();
        g.linear(2, 1, 1, 0);
        g.linear(3, 1, 2, 1);
        g.linear(4, 1, 1, 0);
        made("0123", "1032", "2301", "3210");
        g.linear(5, 1, 1, 0);
        made("01", "1.");
        Check.due("18: order 2", 1, () -> g.critical(0));
        Check.due("18: order 3", 2, () -> g.critical(1));
        Check.due("18: of the remainders by 4", 4, () -> g.critical(2));
        Check.due("18: of the pairs of remainders by 2", 5, () -> g.critical(3));
        Check.due("18: again", 4, () -> g.critical(2));
        Check.state("18: order 5", () -> g.critical(4));
        Check.state("18: no square", () -> g.critical(5));
        Check.range("18: grid 6", () -> g.critical(6));
        // isotopes need as many cells; those of the remainders by 4 have no transversals, the others have 8
        for (int n = 2; n <= 4; n++) {
            for (int[][] square : PlainGrove.squares(n)) {
                fresh();
                g.grid(n);
                for (int cell = 0; cell < n * n; cell++) {
                    g.put(0, cell / n, cell % n, square[cell / n][cell % n]);
                }
                int want = n < 4 ? n - 1 : g.transversals(0) == 0 ? 4 : 5;
                Check.due("18: " + shown(0), want, () -> g.critical(0));
            }
        }
    }

    // ---- laws

    private static void typeAndWipe() {
        fresh();
        Check.due("19: one", 1, () -> g.type('x', 1));
        Check.due("19: bits beyond do not matter", 2, () -> g.type('y' | 'a' << 8, 1));
        Check.due("19: all of them", 8, () -> g.type(0x3d29287a7978L, 6));
        Check.due("20: wipe", 8, () -> g.wipe());
        Check.due("20: wipe again", 0, () -> g.wipe());
        for (char wrong : new char[] {'w', '{', '*', '\'', '<', '>', ' ', 0, 'X', 255, 'x' + 128}) {
            Check.argument("19: the character " + (int) wrong, () -> g.type(wrong, 1));
            Check.argument("19: as the last one", () -> g.type('x' | 'y' << 8 | wrong << 16, 3));
        }
        Check.argument("19: n 0", () -> g.type('x', 0));
        Check.argument("19: n 9", () -> g.type('x', 9));
        Check.argument("19: n -1", () -> g.type('x', -1));
        Check.argument("19: n 2 with one character", () -> g.type('x', 2));
        Check.argument("19: the eighth is none", () -> g.type(0xf878787878787878L, 8));
        Check.due("19: what threw typed nothing", 8, () -> g.type(0x7a7a7a7a78787878L, 8));
        for (int i = 2; i <= 4; i++) {
            g.type(0x7878787878787878L, 8);
        }
        Check.due("19: 39", 39, () -> g.type(0x78787878787878L, 7));
        Check.state("19: 41", () -> g.type(0x7878, 2));
        Check.due("19: 40", 40, () -> g.type('=', 1));
        Check.state("19: none more", () -> g.type('=', 1));
        Check.argument("19: none more, a wrong one", () -> g.type('a', 1));
        Check.argument("19: none more, n 9", () -> g.type('x', 9));
        Check.due("20: wipe", 40, () -> g.wipe());
        g.type('x' | '=' << 8 | ')' << 16, 3);
        Check.due("19: the first character in the lowest bits", 2, () -> g.fault());
    }

    private static void fault() {
        fresh();
        String[] identities = {"x=x", "y=z", "(xy)=z", "x=(yz)", "((xy)z)=(x(yz))", "(x(y(z(x(yz)))))=((xx)(yy))",
            "((((((((((((xx)x)x)x)x)x)x)x)x)x)x)x)=y"};
        for (String identity : identities) {
            fresh();
            type(identity);
            Check.due("21: " + identity, -1, () -> g.fault());
            for (int i = 0; i < identity.length(); i++) {
                int length = i;
                type(identity.substring(0, i));
                Check.due("21: only too short", length, () -> g.fault());
            }
        }
        String[] wrong = {"=", ")", "xx", "x)", "x(", "x==", "x=)", "x=xx", "x=x=", "x=x(", "x=x)", "()", "(=", "(x)",
            "(x=", "(xyz", "(xy(", "(xy=", "(xy))", "(xy)x", "(xy)(", "((xy))", "((xy)=", "((xy)zx", "x=(y)", "x=(yz))",
            "x=(yzx", "(xy)==", "(xy)=z=", "(xy)=(xy)(", "(x(=", "(()", "x=((xy)z)z"};
        for (String text : wrong) {
            fresh();
            type(text);
            Check.due("21: " + text, text.length() - 1, () -> g.fault());
            type(text + "(x=");
            Check.due("21: the first fault of " + text + "(x=", text.length() - 1, () -> g.fault());
        }
        type("((((((((((((((((((((((((((((((((((((((((");
        Check.due("21: it could become too long", 40, () -> g.fault());
        type("(((((((((((((((((((((((((((((((((((((((=");
        Check.due("21: at the end", 39, () -> g.fault());
    }

    private static void breaksAt(int due, int grid, String text) {
        type(text);
        Check.due("22: " + text + " in " + shown(grid), due, () -> g.breaks(grid));
        Check.due("22: the tape stays", text.length(), () -> g.wipe());
    }

    private static void breaks() {
        fresh();
        // x and y, together
        g.linear(4, 1, 1, 0);
        breaksAt(-1, 0, "(xy)=(yx)");
        breaksAt(-1, 0, "((xy)z)=(x(yz))");
        breaksAt(-1, 0, "((xx)(xx))=((yy)(yy))");
        breaksAt(-1, 0, "x=x");
        breaksAt(1, 0, "x=y");
        breaksAt(4, 0, "y=z");
        breaksAt(1, 0, "x=z");
        breaksAt(4, 0, "(xy)=x");
        breaksAt(1, 0, "(xx)=x");
        breaksAt(16, 0, "(zz)=((zz)z)");
        breaksAt(16, 0, "((yy)(yy))=z");
        // x less y
        g.linear(3, 1, 2, 0);
        breaksAt(1, 1, "(xy)=(yx)");
        breaksAt(3, 1, "(yz)=(zy)");
        breaksAt(3, 1, "x=(xy)");
        breaksAt(3, 1, "((xy)y)=x");
        breaksAt(9, 1, "z=(zz)");
        breaksAt(9, 1, "((xy)z)=(x(yz))");
        breaksAt(-1, 1, "(x(xy))=y");
        breaksAt(-1, 1, "(xx)=(yy)");
        // x and y and 1, together
        g.linear(2, 1, 1, 1);
        breaksAt(0, 2, "(xx)=x");
        breaksAt(0, 2, "z=(zz)");
        breaksAt(2, 2, "((zz)z)=((yy)y)");
        breaksAt(-1, 2, "(x(xy))=y");
        made("01", "1.");
        type("x=y");
        Check.state("22: no square", () -> g.breaks(3));
        Check.range("22: grid 4", () -> g.breaks(4));
        Check.range("22: grid -1", () -> g.breaks(-1));
        for (String text : new String[] {"", "x=", "(xy)", "x=yz", "x)=y"}) {
            type(text);
            Check.argument("22: no identity " + text, () -> g.breaks(0));
            Check.argument("22: no identity and no square " + text, () -> g.breaks(3));
            Check.range("22: no identity and no grid " + text, () -> g.breaks(4));
        }
    }

    private static void unit() {
        fresh();
        g.linear(4, 1, 1, 0);
        g.linear(3, 1, 1, 1);
        g.linear(3, 1, 2, 0);
        g.linear(3, 2, 1, 0);
        made("01", "1.");
        Check.due("23: 0", 0, () -> g.unit(0));
        Check.due("23: 2", 2, () -> g.unit(1));
        Check.due("23: from the right alone", -1, () -> g.unit(2));
        Check.due("23: from the left alone", -1, () -> g.unit(3));
        Check.state("23: no square", () -> g.unit(4));
        Check.range("23: grid 5", () -> g.unit(5));
    }

    private static void nucleus() {
        fresh();
        g.linear(4, 1, 1, 0);
        g.linear(3, 1, 2, 0);
        g.linear(3, 2, 1, 0);
        made("01234", "10342", "23401", "34120", "42013");
        made("0123", "3012", "2301", "1230");
        made("0132", "1023", "2301", "3210");
        made("01", "1.");
        int[][] due = {{15, 15, 15, 15}, {0, 0, 1, 0}, {1, 0, 0, 0}, {1, 1, 1, 1}, {5, 0, 0, 0}, {0, 0, 3, 0}};
        for (int grid = 0; grid < due.length; grid++) {
            for (int which = 0; which < 4; which++) {
                int number = grid;
                int k = which;
                Check.due("24: nucleus " + k + " of " + number, due[number][k], () -> g.nucleus(number, k));
            }
        }
        Check.argument("24: which 4", () -> g.nucleus(0, 4));
        Check.argument("24: which -1, no square", () -> g.nucleus(6, -1));
        Check.state("24: no square", () -> g.nucleus(6, 0));
        Check.range("24: grid 7", () -> g.nucleus(7, 4));
    }

    private static void closed() {
        fresh();
        g.linear(4, 1, 1, 0);
        made("01234", "10342", "23401", "34120", "42013");
        made("01", "1.");
        Check.due("25: of 0", 1, () -> g.closed(0, 1));
        Check.due("25: of 1", 15, () -> g.closed(0, 2));
        Check.due("25: of 2", 5, () -> g.closed(0, 4));
        Check.due("25: of 0 and 2", 5, () -> g.closed(0, 5));
        Check.due("25: of all", 15, () -> g.closed(0, 15));
        Check.due("25: of 1 in a loop", 3, () -> g.closed(1, 2));
        Check.due("25: of 2 in a loop", 31, () -> g.closed(1, 4));
        Check.argument("25: empty", () -> g.closed(0, 0));
        Check.argument("25: 4 of order 4", () -> g.closed(0, 16));
        Check.argument("25: 4 too", () -> g.closed(0, 17));
        Check.argument("25: the highest bit", () -> g.closed(0, Integer.MIN_VALUE | 1));
        Check.argument("25: no square, empty", () -> g.closed(2, 0));
        Check.state("25: no square", () -> g.closed(2, 1));
        Check.range("25: grid 3", () -> g.closed(3, 0));
    }

    private static void count() {
        fresh();
        g.linear(4, 1, 1, 0);
        g.linear(3, 1, 2, 0);
        g.linear(3, 2, 2, 0);
        g.linear(5, 2, 1, 0);
        g.linear(4, 1, 3, 0);
        made("0123", "1032", "2301", "3210");
        made("01", "1.");
        g.linear(5, 1, 3, 0);
        int[][] due = {{3, 2, 4, 4, 4}, {2, 2, 6, 3, 6}, {4, 6, 6, 6, 6}, {2, 4, 5, 20, 20}};
        for (int grid = 0; grid < due.length; grid++) {
            for (int what = 0; what < 5; what++) {
                int number = grid;
                int k = what;
                Check.due("26: count " + k + " of " + number, due[number][k], () -> g.count(number, k));
            }
        }
        Check.due("26: turns of a line of four", 8, () -> g.count(4, 2));
        Check.due("26: shifts of a line of four", 4, () -> g.count(4, 3));
        Check.due("26: closed sets of pairs", 5, () -> g.count(5, 0));
        Check.due("26: automorphisms of pairs", 6, () -> g.count(5, 1));
        Check.argument("26: what 5", () -> g.count(0, 5));
        Check.argument("26: what -1, no square", () -> g.count(6, -1));
        Check.state("26: no square", () -> g.count(6, 0));
        Check.range("26: grid 8", () -> g.count(8, 5));
    }

    private static void isotopies() {
        fresh();
        g.linear(2, 1, 1, 0);
        g.linear(3, 1, 1, 0);
        g.linear(3, 1, 2, 1);
        g.linear(4, 1, 1, 0);
        made("0123", "1032", "2301", "3210");
        g.linear(5, 1, 1, 0);
        g.linear(5, 3, 2, 4);
        made("01234", "10342", "23401", "34120", "42013");
        made("01", "1.");
        int[][] due = {{0, 0, 4}, {1, 2, 18}, {2, 1, 18}, {3, 3, 32}, {4, 4, 96}, {3, 4, 0}, {4, 3, 0}, {5, 6, 100},
            {5, 7, 0}, {0, 1, 0}, {5, 3, 0}};
        for (int[] three : due) {
            Check.due("27: from " + three[0] + " to " + three[1], three[2], () -> g.isotopies(three[0], three[1]));
        }
        Check.state("27: the first no square", () -> g.isotopies(8, 0));
        Check.state("27: the other no square", () -> g.isotopies(0, 8));
        Check.state("27: no square, orders unlike", () -> g.isotopies(1, 8));
        Check.range("27: no grid, no square", () -> g.isotopies(8, 9));
        Check.range("27: no grid", () -> g.isotopies(-1, 0));
    }

    // ---- mates

    private static void transversalsAndMates() {
        fresh();
        g.linear(2, 1, 1, 0);
        g.linear(3, 1, 1, 1);
        g.linear(4, 1, 1, 0);
        made("0123", "1032", "2301", "3210");
        g.linear(5, 1, 1, 0);
        made("01", "1.");
        int[] transversals = {0, 3, 0, 8, 15};
        int[] mates = {0, 1, 0, 2, 3};
        for (int grid = 0; grid < mates.length; grid++) {
            int number = grid;
            Check.due("28: transversals of " + number, transversals[number], () -> g.transversals(number));
            Check.due("29: mates of " + number, mates[number], () -> g.mates(number));
        }
        Check.due("30: of order 3", 6, () -> g.mate(1));
        Check.due("30: the lowest", "012/201/120", () -> shown(6));
        Check.due("30: of order 4", 7, () -> g.mate(3));
        Check.due("30: the lowest", "0123/2301/3210/1032", () -> shown(7));
        Check.due("30: of order 5", 8, () -> g.mate(4));
        Check.due("30: the lowest", "01234/23401/40123/12340/34012", () -> shown(8));
        Check.due("30: a square", 25, () -> g.of(8, 1));
        Check.state("30: no mate of order 2", () -> g.mate(0));
        Check.state("30: no mate of order 4", () -> g.mate(2));
        Check.state("28: no square", () -> g.transversals(5));
        Check.state("29: no square", () -> g.mates(5));
        Check.state("30: no square", () -> g.mate(5));
        Check.range("28: grid 9", () -> g.transversals(9));
        Check.range("29: grid 9", () -> g.mates(9));
        Check.range("30: grid 9", () -> g.mate(9));
        g.mate(1);
        g.mate(1);
        Check.due("30: the last one", 11, () -> g.mate(1));
        Check.state("30: a grid too many", () -> g.mate(1));
    }

    private static void areMates() {
        fresh();
        g.linear(3, 1, 1, 0);
        g.linear(3, 2, 1, 2);
        g.linear(5, 1, 1, 0);
        g.linear(5, 4, 1, 0);
        g.linear(5, 2, 2, 0);
        made("01", "1.");
        Check.due("31: mates", true, () -> g.areMates(0, 1));
        Check.due("31: mates of order 5", true, () -> g.areMates(2, 3));
        Check.due("31: no mates", false, () -> g.areMates(2, 4));
        Check.due("31: not of itself", false, () -> g.areMates(0, 0));
        Check.due("31: orders", false, () -> g.areMates(0, 2));
        Check.state("31: the first no square", () -> g.areMates(5, 0));
        Check.state("31: the other no square", () -> g.areMates(0, 5));
        Check.range("31: grid 6", () -> g.areMates(5, 6));
        Check.range("31: grid -1", () -> g.areMates(-1, 0));
    }

    private static void parity() {
        fresh();
        g.linear(3, 1, 1, 0);
        g.linear(3, 1, 2, 0);
        g.linear(3, 2, 1, 0);
        g.linear(3, 2, 2, 0);
        g.linear(2, 1, 1, 0);
        g.linear(4, 1, 1, 0);
        made("01", "1.");
        int[][] due = {{0, 0, 1}, {1, 0, 0}, {0, 1, 0}, {1, 1, 1}, {1, 1, 1}};
        for (int grid = 0; grid < due.length; grid++) {
            for (int which = 0; which < 3; which++) {
                int number = grid;
                int k = which;
                Check.due("32: parity " + k + " of " + number, due[number][k], () -> g.parity(number, k));
            }
        }
        Check.due("32: rows of order 4", 0, () -> g.parity(5, 0));
        Check.argument("32: which 3", () -> g.parity(0, 3));
        Check.argument("32: which -1, no square", () -> g.parity(6, -1));
        Check.state("32: no square", () -> g.parity(6, 0));
        Check.range("32: grid 7", () -> g.parity(7, 3));
    }

    // ---- the game

    private static void wins() {
        fresh();
        made("1.", "..");
        made("..", "..");
        made("0.", ".1");
        made("01", "1.");
        made("01", "..");
        made("01", "10");
        made("0..", ".1.", "...");
        made("012.", "1032", "2..3", "....");
        Check.due("33: the lowest move", 10, () -> g.wins(0));
        Check.due("33: who begins loses", -1, () -> g.wins(1));
        Check.due("33: nothing can be put", -1, () -> g.wins(2));
        Check.due("33: the last cell", 30, () -> g.wins(3));
        Check.due("33: two cells, one each", -1, () -> g.wins(4));
        Check.due("33: a square", -1, () -> g.wins(5));
        Check.due("33: changes nothing", "1./..", () -> shown(0));
        Check.state("33: 7 empty cells", () -> g.wins(6));
        Check.due("33: two of them dead", 2, () -> g.of(7, 2));
        Check.state("33: 7 empty cells, two of them dead", () -> g.wins(7));
        g.put(7, 3, 0, 3);
        Check.due("33: 6 empty cells", true, () -> g.wins(7) >= -1);
        Check.range("33: grid 8", () -> g.wins(8));
        Check.range("33: grid -1", () -> g.wins(-1));
    }
}
