/** Each sentence of the promises 19 to 27 that names a boundary case. */
public final class LawSentencesTest extends Scene {
    private static final String SIGNS = "xyz()=";
    private static final String EIGHT = "xxxxxxxx";
    private static final String LONGEST = "(x(x(x(x(x(x(x(x(x(x(x(xy))))))))))))=y";

    public static void main(String[] args) {
        runAll(LawSentencesTest.class);
    }

    // ---- 19

    @Sentence("19: n: 1 to 8")
    void amountsTyped() {
        due("1", 1, () -> g.type('x', 1));
        due("8", 9, () -> g.type(Groves.packed(EIGHT), 8));
        for (int wrong : new int[] {0, 9, -1, 16, 40, Integer.MIN_VALUE, Integer.MAX_VALUE}) {
            argument("" + wrong, () -> g.type(Groves.packed(EIGHT), wrong));
        }
        due("none typed by them", 9, () -> g.wipe());
    }

    @Sentence("19: the first one in the lowest 8 bits, and so on")
    void orderOfCharacters() {
        due(3, () -> g.type(Groves.packed("x=y"), 3));
        due("an identity in this order", -1, () -> g.fault());
        g.wipe();
        due(8, () -> g.type(Groves.packed("(xy)=(yx"), 8));
        due(9, () -> g.type(Groves.packed(")"), 1));
        due("goes on behind what is there", -1, () -> g.fault());
        g.wipe();
        g.type(Groves.packed("=xy"), 3);
        due(0, () -> g.fault());
    }

    @Sentence("19: bits beyond the n characters do not matter")
    void bitsBeyond() {
        for (int n = 1; n < 8; n++) {
            int amount = n;
            for (long beyond : new long[] {-1L, 0L, 0x7f7f7f7f7f7f7f7fL, 0x8080808080808080L, Long.MIN_VALUE}) {
                long high = beyond << 8 * n;
                long low = Groves.packed("(((((((".substring(0, n));
                due(n, () -> g.type(high | low, amount));
                due("characters that can open an identity", n, () -> g.fault());
                due(n, () -> g.wipe());
            }
        }
    }

    @Sentence("19: Throws IllegalArgumentException if one of the n characters cannot be on the tape: each of 256, at each place")
    void eachCharacter() {
        for (int place = 0; place < 8; place++) {
            for (int character = 0; character < 256; character++) {
                if (character % 128 == 0) {
                    fresh();
                }
                boolean can = SIGNS.indexOf((char) character) >= 0;
                long others = Groves.packed(EIGHT) & ~(255L << 8 * place);
                long characters = others | (long) character << 8 * place;
                due(character + " at " + place, can ? 8 : "throws.IllegalArgumentException",
                        () -> g.type(characters, 8));
                due(can ? 8 : 0, () -> g.wipe());
            }
        }
    }

    @Sentence("19: Throws IllegalArgumentException if one of the n characters cannot be on the tape: the last of them, not the one behind it")
    void theLastCharacter() {
        long characters = Groves.packed("xyz()=xa");
        due(7, () -> g.type(characters, 7));
        argument(() -> g.type(characters, 8));
        due(7, () -> g.wipe());
        argument("no character at all", () -> g.type(0L, 1));
        argument("all bits", () -> g.type(-1L, 8));
    }

    @Sentence("19: Returns how many the tape has then; Throws IllegalStateException if the tape would have more than 40")
    void theTapeOf40() {
        for (int n = 1; n <= 8; n++) {
            for (int had = 40 - n; had <= 40; had++) {
                int amount = n;
                int before = had;
                fresh();
                type("(".repeat(had));
                due(had + " and " + n, had + n == 40 ? 40 : "throws.IllegalStateException",
                        () -> g.type(Groves.packed(EIGHT), amount));
                due(before + amount == 40 ? 40 : before, () -> g.wipe());
            }
        }
    }

    @Sentence("The tape has at most 40 characters: fewer can still come when some did not")
    void theTapeTakesFewer() {
        type("(".repeat(39));
        state(() -> g.type(Groves.packed("xx"), 2));
        due(40, () -> g.type('x', 1));
        state(() -> g.type('x', 1));
        due(40, () -> g.fault());
    }

    // ---- 20

    @Sentence("20: Empties the tape; returns how many characters it had: 0 of an empty one, 40 of a full one")
    void wipes() {
        due("a new tape", 0, () -> g.wipe());
        for (int length : new int[] {1, 8, 39, 40}) {
            type("(".repeat(length));
            due(length, () -> g.wipe());
            due("empty", 0, () -> g.wipe());
            due("an empty tape's fault", 0, () -> g.fault());
            due("begins from the first place", 1, () -> g.type('=', 1));
            due("what was there is gone", 0, () -> g.fault());
        }
    }

    // ---- 21

    @Sentence("21: NONE, if it is an identity")
    void identities() {
        for (String text : new String[] {"x=x", "x=y", "z=z", "(xy)=z", "z=(xy)", "((xx)(yy))=((zz)(xy))", LONGEST}) {
            type(text);
            due(text, -1, () -> g.fault());
        }
    }

    @Sentence("21: or its length, if it is only too short: 0 of the empty tape, and of each beginning of an identity")
    void tooShort() {
        due("the empty tape", 0, () -> g.fault());
        for (String text : new String[] {"x=x", "((xy)z)=(x(yz))", "x=((xx)(yy))", LONGEST}) {
            for (int end = 0; end < text.length(); end++) {
                int length = end;
                fresh();
                type(text.substring(0, length));
                due(text.substring(0, length), length, () -> g.fault());
            }
        }
    }

    @Sentence("21: It does not matter that the tape could become too long")
    void couldBecomeTooLong() {
        String[] texts = {"(".repeat(40), "(".repeat(39) + "x", "(".repeat(39), "(".repeat(30) + "x",
            "x=" + "(".repeat(38), "(xy)=" + "(".repeat(34) + "x", "(".repeat(20) + "x(".repeat(10)};
        for (String text : texts) {
            fresh();
            type(text);
            due(text, text.length(), () -> g.fault());
        }
    }

    @Sentence("21: the place, from 0 on, of the first character with which it cannot be the beginning of an identity")
    void firstFaults() {
        String[] texts = {"=", ")", "x)", "xy", "x(", "(=", "()", "(x)", "(x=", "(xyz", "(xy(", "(xy=", "x==", "x=)",
            "x=xy", "x=x=", "x=x)", "x=x(", "(xy))", "(xy)x", "(xy)(", "x=(xy))", "x=(xy)=", "x=(xy)z", "((xy)z))"};
        for (String text : texts) {
            fresh();
            type(text);
            due(text, text.length() - 1, () -> g.fault());
            type(text + "=x)((x=y");
            due("what comes behind does not matter", text.length() - 1, () -> g.fault());
        }
    }

    @Sentence("21: the place of the first character: the last one of a tape of 40")
    void faultAtTheEnd() {
        type("(".repeat(39) + "=");
        due(39, () -> g.fault());
        fresh();
        type(LONGEST + "x");
        due("behind an identity", 39, () -> g.fault());
        fresh();
        type("x".repeat(40));
        due("the second one", 1, () -> g.fault());
    }

    @Sentence("21: Returns the fault of the tape: of each text of up to six characters")
    void faultsOfAllTexts() {
        for (int length = 1; length <= 6; length++) {
            int texts = (int) Math.pow(6, length);
            for (int number = 0; number < texts; number++) {
                StringBuilder text = new StringBuilder();
                for (int rest = number, i = 0; i < length; i++, rest /= 6) {
                    text.append(SIGNS.charAt(rest % 6));
                }
                if (number % 100 == 0) {
                    fresh();
                }
                g.type(Groves.packed(text.toString()), length);
                due(text.toString(), plainFault(text.toString()), () -> g.fault());
                g.wipe();
            }
        }
    }

    private static int plainFault(String text) {
        PlainGrove plain = new PlainGrove();
        plain.type(Groves.packed(text), text.length());
        return plain.fault();
    }

    // ---- 22

    private void breaksAt(int want, int grid, String text) {
        type(text);
        due(text, want, () -> g.breaks(grid));
    }

    @Sentence("22: Returns that number; NONE if it holds")
    void holds() {
        for (int n : ORDERS) {
            int grid = g.linear(n, 1, 1, 0);
            breaksAt(-1, grid, "x=x");
            breaksAt(-1, grid, "(xy)=(yx)");
            breaksAt(-1, grid, "((xy)z)=(x(yz))");
        }
    }

    @Sentence("22: the lowest of x and n times y and n times n times z: 0, if all values are 0")
    void breaksAtZero() {
        for (int n : ORDERS) {
            int grid = g.linear(n, 1, 1, 1);
            breaksAt(0, grid, "(xx)=x");
            breaksAt(0, grid, "y=(yy)");
            breaksAt(0, grid, "(zz)=z");
            breaksAt(0, grid, "(xy)=z");
        }
    }

    @Sentence("22: the lowest of x and n times y and n times n times z, together: x before y before z")
    void breaksAtTheLowest() {
        for (int n : ORDERS) {
            int grid = g.linear(n, 1, 1, 0);
            breaksAt(1, grid, "x=y");
            breaksAt(1, grid, "x=z");
            breaksAt(n, grid, "y=z");
            breaksAt(1, grid, "(xy)=z");
            breaksAt(n, grid, "x=(xy)");
            breaksAt(n * n, grid, "x=(xz)");
            breaksAt(n * n, grid, "(yz)=y");
        }
    }

    @Sentence("22: the lowest of x and n times y and n times n times z: where all but the highest value keep it")
    void breaksAtTheHighest() {
        for (int n = 4; n <= 5; n++) {
            fresh();
            g.grid(n);
            for (int i = 0; i < n - 1; i++) {
                g.put(0, i, i, i);
            }
            g.put(0, n - 1, n - 1, n == 4 ? 1 : 0);
            g.fill(0);
            int order = n;
            due("a square", order * order, () -> g.of(0, 1));
            breaksAt(n - 1, 0, "(xx)=x");
            breaksAt(n * (n - 1), 0, "y=(yy)");
            breaksAt(n * n * (n - 1), 0, "(zz)=z");
        }
        fresh();
        madeOf("02413/40321/13042/31204/24130");
        breaksAt(75, 0, "z=(((xx)z)(yy))");
    }

    @Sentence("22: a letter that is in neither word is taken with the value 0 alone; one that is in one word is not")
    void lettersInOneWord() {
        int grid = g.linear(3, 1, 2, 0);
        breaksAt(1, grid, "x=(yy)");
        breaksAt(3, grid, "y=(zz)");
        breaksAt(9, grid, "z=(xx)");
        breaksAt(3, grid, "(yy)=y");
        breaksAt(9, grid, "(zz)=z");
        breaksAt(1, grid, "(zz)=x");
        breaksAt(3, grid, "(xx)=y");
        breaksAt(9, grid, "(yy)=z");
    }

    @Sentence("Laws: The value of a word is the product of the values of its both words, in their order")
    void wordsInTheirOrder() {
        // the product of a and b is a less b
        int grid = g.linear(5, 1, 4, 0);
        breaksAt(-1, grid, "(x(xy))=y");
        breaksAt(-1, grid, "((xy)x)=((xx)y)");
        breaksAt(5, grid, "(xy)=x");
        breaksAt(1, grid, "(yx)=y");
        breaksAt(5, grid, "((xy)x)=(y(xx))");
    }

    @Sentence("22: the identity on the tape: up to the longest one, with as many words open as can be")
    void longIdentities() {
        int square = madeOf("01234/10342/23401/34120/42013");
        PlainGrove plain = new PlainGrove();
        plain.grid(5);
        plain.fill(0);
        String[] texts = {LONGEST, "y=(x(x(x(x(x(x(x(x(x(x(x(xy))))))))))))", "((((((((((((xx)x)x)x)x)x)x)x)x)x)x)y)=y",
            "(x(x(x(x(x(yz))))))=((((((xy)z)x)y)z)x)", "(y(z(y(z(y(zx))))))=(y(z(y(z(y(zx))))))"};
        for (String text : texts) {
            type(text);
            plain.wipe();
            for (int i = 0; i < text.length(); i++) {
                plain.type(text.charAt(i), 1);
            }
            due(text, Check.told(() -> plain.breaks(0)), () -> g.breaks(square));
        }
    }

    @Sentence("22: The tape stays")
    void tapeStaysByBreaks() {
        g.linear(3, 1, 2, 0);
        type("(xy)=(yx)");
        due(1, () -> g.breaks(0));
        due(1, () -> g.breaks(0));
        due(-1, () -> g.fault());
        due(9, () -> g.wipe());
    }

    @Sentence("22: Throws IllegalArgumentException if the tape is no identity: empty, too short, too long, at fault")
    void breaksOfNoIdentity() {
        g.linear(3, 1, 1, 0);
        for (String text : new String[] {"", "x", "x=", "(xy)", "(xy)=", "x=x=", "x=xx", "=", "x=(xy", "(".repeat(40), LONGEST + ")"}) {
            type(text);
            argument(text, () -> g.breaks(0));
        }
        type("x=x");
        due("an identity then", -1, () -> g.breaks(0));
    }

    // ---- 23

    @Sentence("23: Returns the unit: each of 0 to one less than the ORDER")
    void units() {
        for (int n : ORDERS) {
            for (int d = 0; d < n; d++) {
                fresh();
                g.linear(n, 1, 1, d);
                int want = (n - d) % n;
                due(n + " " + d, want, () -> g.unit(0));
            }
        }
    }

    @Sentence("23: NONE if it has none; with which the products of e and a, and of a and e, are a: both")
    void noUnits() {
        due("from the right alone", -1, () -> g.unit(g.linear(3, 1, 2, 0)));
        due("from the left alone", -1, () -> g.unit(g.linear(3, 2, 1, 0)));
        due("neither", -1, () -> g.unit(g.linear(5, 2, 3, 0)));
        due("from the right for all, from the left but for two", -1, () -> g.unit(madeOf("0132/1023/2301/3210")));
        due("from the left for all, from the right but for two", -1, () -> g.unit(madeOf("0123/1032/3201/2310")));
    }

    // ---- 24

    @Sentence("24: which: 0 to 3")
    void whichNuclei() {
        g.linear(4, 1, 1, 0);
        for (int which = 0; which <= 3; which++) {
            int k = which;
            due(15, () -> g.nucleus(0, k));
        }
        for (int wrong : new int[] {-1, 4, Integer.MIN_VALUE, Integer.MAX_VALUE}) {
            argument(() -> g.nucleus(0, wrong));
        }
    }

    @Sentence("24: Returns the set; 0 if it is empty: each of the four alone, and all of them")
    void emptyNuclei() {
        int[][] due = {{1, 0, 0, 0}, {0, 0, 1, 0}};
        g.linear(3, 2, 1, 0);
        g.linear(3, 1, 2, 0);
        g.linear(5, 2, 3, 0);
        for (int which = 0; which <= 3; which++) {
            int k = which;
            due("of b less a", due[0][k], () -> g.nucleus(0, k));
            due("of a less b", due[1][k], () -> g.nucleus(1, k));
            due("of neither", 0, () -> g.nucleus(2, k));
        }
    }

    @Sentence("24: Returns a nucleus as bits, that of 0 lowest: all of each ORDER, one alone")
    void bitsOfNuclei() {
        for (int n : ORDERS) {
            for (int d = 0; d < n; d++) {
                fresh();
                g.linear(n, 1, 1, d);
                for (int which = 0; which <= 3; which++) {
                    int k = which;
                    due((1 << n) - 1, () -> g.nucleus(0, k));
                }
            }
        }
        // a loop whose unit is 4
        fresh();
        madeOf("01234/10342/23401/34120/42013");
        g.isotope(0, 1234, 1234, 1234);
        due("the unit alone", 4, () -> g.unit(1));
        for (int which = 0; which <= 3; which++) {
            int k = which;
            due(16, () -> g.nucleus(1, k));
        }
    }

    // ---- 25

    @Sentence("25: Throws IllegalArgumentException if set is empty, or has what is none of 0 to one less than the ORDER")
    void setsOfEachOrder() {
        for (int n : ORDERS) {
            int square = g.linear(n, 1, 1, 0);
            int all = (1 << n) - 1;
            due("the lowest", 1, () -> g.closed(square, 1));
            due("all", all, () -> g.closed(square, all));
            due("the highest alone", true, () -> g.closed(square, 1 << (n - 1)) > 0);
            for (int wrong : new int[] {0, all + 1, all + 2, 1 << 5, 1 << 30, -1, Integer.MIN_VALUE, Integer.MAX_VALUE,
                Integer.MIN_VALUE + 1}) {
                argument(n + " " + wrong, () -> g.closed(square, wrong));
            }
        }
    }

    @Sentence("25: Returns the least CLOSED set that has all of a set: a CLOSED one itself")
    void closedItself() {
        for (int n : ORDERS) {
            for (int set = 1; set < 1 << n; set++) {
                fresh();
                madeOf(String.join("/", SQUARES[n]));
                int from = set;
                int grown = g.closed(0, from);
                due("it has all of the set", from, () -> grown & from);
                due("it is closed itself", grown, () -> g.closed(0, grown));
            }
        }
    }

    @Sentence("25: Returns the least CLOSED set that has all of a set: one number alone that is its own product, or all")
    void closedLeast() {
        g.linear(5, 2, 4, 0);
        for (int a = 0; a < 5; a++) {
            int one = 1 << a;
            due("its own product", one, () -> g.closed(0, one));
            due("two make all", 31, () -> g.closed(0, one | 1 << (one == 1 ? 1 : 0)));
        }
        g.linear(4, 1, 1, 0);
        int[] due = {1, 15, 5, 15};
        for (int a = 0; a < 4; a++) {
            int number = a;
            due("by steps", due[number], () -> g.closed(1, 1 << number));
        }
        g.linear(5, 1, 1, 0);
        due("one after another", 31, () -> g.closed(2, 2));
        due("5 with 1", 15, () -> g.closed(1, 6));
    }

    // ---- 26

    @Sentence("26: what: 0 to 4")
    void whatIsCounted() {
        g.linear(3, 1, 2, 0);
        int[] due = {2, 2, 6, 3, 6};
        for (int what = 0; what <= 4; what++) {
            int k = what;
            due(due[k], () -> g.count(0, k));
        }
        for (int wrong : new int[] {-1, 5, Integer.MIN_VALUE, Integer.MAX_VALUE}) {
            argument(() -> g.count(0, wrong));
        }
    }

    @Sentence("26: 0 CLOSED sets: A set, not empty, is CLOSED: the empty one does not count, that of all numbers does")
    void countsOfClosedSets() {
        due("that of all alone", 1, () -> g.count(madeOf("102/021/210"), 0));
        due("0 alone, and all", 2, () -> g.count(g.linear(3, 1, 1, 0), 0));
        due("each number alone, and all", 6, () -> g.count(g.linear(5, 2, 4, 0), 0));
        due("of the order 2: 0, and all", 2, () -> g.count(g.linear(2, 1, 1, 0), 0));
        due("that of all alone, of the order 5", 1, () -> g.count(madeOf("41230/32041/14302/03124/20413"), 0));
    }

    @Sentence("26: 1 AUTOMORPHISMS: the MAP that leaves all is always one")
    void countsOfAutomorphisms() {
        due("it alone", 1, () -> g.count(g.linear(2, 1, 1, 0), 1));
        due("it alone, of the order 5", 1, () -> g.count(madeOf("13042/01234/30421/42310/24103"), 1));
        due(3, () -> g.count(madeOf("24013/01234/32140/40321/13402"), 1));
        due(5, () -> g.count(madeOf("32104/04321/21043/43210/10432"), 1));
        due("20", 20, () -> g.count(madeOf("04123/41302/13240/20431/32014"), 1));
        due(6, () -> g.count(madeOf("0123/1032/2301/3210"), 1));
    }

    @Sentence("26: the group of some MAPS: each counted once: up to all MAPS of 5")
    void countsOfGroups() {
        String all = "13042/01234/30421/42310/24103";
        int[] rows = {5, 10, 20, 60, 120};
        String[] squares = {"32410/43102/01234/20341/14023", "03412/21043/42130/10324/34201",
            "14032/30124/02413/43201/21340", "42301/20134/31240/14023/03412", all};
        for (int i = 0; i < rows.length; i++) {
            int number = i;
            fresh();
            int square = madeOf(squares[i]);
            due("of rows", rows[number], () -> g.count(square, 2));
            g.conjugate(square, 1);
            due("of columns", rows[number], () -> g.count(square + 1, 3));
        }
        fresh();
        int square = madeOf(all);
        due("of both", 120, () -> g.count(square, 4));
        due("the same again", 120, () -> g.count(square, 4));
        due("of the order 2", 2, () -> g.count(g.linear(2, 1, 1, 0), 4));
    }

    @Sentence("The group has all MAPS that come by doing some of them, each as often as may be: the one that leaves all too")
    void groupsWithTheOneThatLeavesAll() {
        // no row map leaves all: 0 becomes 1 or 2 or 0 with 1 and 2 exchanged
        int square = madeOf("102/021/210");
        due("of rows", 6, () -> g.count(square, 2));
        due("of columns", 6, () -> g.count(square, 3));
        int shifts = g.linear(5, 1, 1, 1);
        due("of shifts", 5, () -> g.count(shifts, 2));
        due("of shifts", 5, () -> g.count(shifts, 4));
    }

    // ---- 27

    @Sentence("27: Returns how many; 0 if their ORDERS are unlike")
    void isotopiesOfUnlikeOrders() {
        int[] ofOne = {4, 18, 32, 100};
        for (int n : ORDERS) {
            g.linear(n, 1, 1, 0);
        }
        for (int i = 0; i < 4; i++) {
            for (int j = 0; j < 4; j++) {
                int first = i;
                int other = j;
                due(i == j ? ofOne[i] : 0, () -> g.isotopies(first, other));
            }
        }
    }

    @Sentence("27: Counts the ISOTOPIES that bring one SQUARE to another one: 0, if none does")
    void isotopiesNone() {
        madeOf("0123/1032/2301/3210");
        g.linear(4, 1, 1, 0);
        due(0, () -> g.isotopies(0, 1));
        due(0, () -> g.isotopies(1, 0));
        due("of itself", 96, () -> g.isotopies(0, 0));
        g.linear(5, 1, 1, 0);
        madeOf("01234/10342/23401/34120/42013");
        due(0, () -> g.isotopies(2, 3));
        due(0, () -> g.isotopies(3, 2));
    }

    @Sentence("27: Counts the ISOTOPIES that bring one SQUARE to another one: as many to each isotope")
    void isotopiesOfIsotopes() {
        int[] turned = {1, 102, 1302, 24013};
        int[] ofOne = {4, 18, 96};
        for (int n = 2; n <= 4; n++) {
            fresh();
            int map = turned[n - 2];
            madeOf(String.join("/", SQUARES[n]));
            g.isotope(0, map, Integer.parseInt("3210".substring(4 - n)), map);
            int want = ofOne[n - 2];
            due(want, () -> g.isotopies(0, 1));
            due(want, () -> g.isotopies(1, 0));
        }
        fresh();
        madeOf(String.join("/", SQUARES[5]));
        g.isotope(0, 24013, 43210, 13240);
        int ofItself = g.isotopies(0, 0);
        due("the one that leaves all at least", true, () -> ofItself >= 1);
        due(ofItself, () -> g.isotopies(0, 1));
        due(ofItself, () -> g.isotopies(1, 0));
    }
}
