/** A grove of squares in which each row and column has each sign once. */
public final class Quasigrove {

    public static final int NONE = -1;

    private static final int LEAST_ORDER = 2;
    private static final int MOST_ORDER = 5;
    private static final int MOST_CELLS = 25;
    private static final int MOST_GRIDS = 12;
    private static final int MOST_MAPS = 120;
    private static final int MOST_FILLS = 1000;
    private static final int MOST_STIRS = 50;
    private static final int MOST_CHARACTERS = 40;
    private static final int MOST_TYPED = 8;
    private static final int MOST_PLAYED = 6;

    private final Grid[] grids = new Grid[MOST_GRIDS];
    private final Grid work = new Grid();
    private final Maps maps = new Maps();
    private final Tape tape = new Tape();
    private final RowFilling rowFilling = new RowFilling(maps);
    private final Telling telling = new Telling(maps);
    private final Symmetry symmetry = new Symmetry(maps);
    private final Mating mating = new Mating(maps);
    private int made = 0;

    public Quasigrove() {
        for (int i = 0; i < grids.length; i++) {
            grids[i] = new Grid();
        }
    }

    // ---- GRIDS

    public int grid(int order) throws IllegalArgumentException, IllegalStateException {
        needArgument(isFrom(order, LEAST_ORDER, MOST_ORDER));
        newGrid(order);
        return made - 1;
    }

    public int linear(int order, int a, int b, int d)
            throws IllegalArgumentException, IllegalStateException {
        needArgument(isFrom(order, LEAST_ORDER, MOST_ORDER));
        needArgument(isFrom(a, 0, 4) && isFrom(b, 0, 4) && isFrom(d, 0, 4));
        needArgument(reachesAll(a, order) && reachesAll(b, order));
        Grid fresh = newGrid(order);
        for (int row = 0; row < order; row++) {
            for (int column = 0; column < order; column++) {
                fresh.set(row, column, remainder(a * row + b * column + d, order));
            }
        }
        return made - 1;
    }

    public int put(int grid, int row, int column, int sign)
            throws IndexOutOfBoundsException, IllegalArgumentException, IllegalStateException {
        Grid changed = gridAt(grid);
        needCell(changed, row, column);
        needArgument(isFrom(sign, NONE, changed.order - 1));
        int old = changed.signAt(row, column);
        if (sign != old) {
            needState(!changed.hasInLines(row, column, sign));
            changed.set(row, column, sign);
        }
        return old;
    }

    public int isotope(int grid, int rows, int columns, int signs)
            throws IndexOutOfBoundsException, IllegalArgumentException, IllegalStateException {
        Grid from = gridAt(grid);
        int rowMap = maps.numberOfCode(rows, from.order);
        int columnMap = maps.numberOfCode(columns, from.order);
        int signMap = maps.numberOfCode(signs, from.order);
        needArgument(rowMap != NONE && columnMap != NONE && signMap != NONE);
        Grid fresh = newGrid(from.order);
        for (int row = 0; row < from.order; row++) {
            for (int column = 0; column < from.order; column++) {
                int sign = maps.imageOf(signMap, from.signAt(row, column));
                fresh.set(maps.imageOf(rowMap, row), maps.imageOf(columnMap, column), sign);
            }
        }
        return made - 1;
    }

    public int conjugate(int grid, int how)
            throws IndexOutOfBoundsException, IllegalArgumentException, IllegalStateException {
        Grid from = gridAt(grid);
        needArgument(isFrom(how, 0, 5));
        Grid fresh = newGrid(from.order);
        for (int row = 0; row < from.order; row++) {
            for (int column = 0; column < from.order; column++) {
                int sign = from.signAt(row, column);
                if (sign != NONE) {
                    setConjugate(fresh, how, row, column, sign);
                }
            }
        }
        return made - 1;
    }

    public int cell(int grid, int row, int column) throws IndexOutOfBoundsException {
        Grid asked = gridAt(grid);
        needCell(asked, row, column);
        return asked.signAt(row, column);
    }

    public int of(int grid, int what) throws IndexOutOfBoundsException, IllegalArgumentException {
        Grid asked = gridAt(grid);
        needArgument(isFrom(what, 0, 2));
        switch (what) {
            case 0:
                return asked.order;
            case 1:
                return asked.filled;
            default:
                return asked.deadCells();
        }
    }

    public int distance(int grid, int other) throws IndexOutOfBoundsException, IllegalArgumentException {
        Grid first = gridAt(grid);
        Grid second = gridAt(other);
        needArgument(first.order == second.order);
        int unlike = 0;
        for (int row = 0; row < first.order; row++) {
            for (int column = 0; column < first.order; column++) {
                if (first.signAt(row, column) != second.signAt(row, column)) {
                    unlike++;
                }
            }
        }
        return unlike;
    }

    // ---- moves

    public int turn(int grid, int row, int other, int column)
            throws IndexOutOfBoundsException, IllegalArgumentException, IllegalStateException {
        Grid turned = gridAt(grid);
        needCell(turned, row, column);
        needCell(turned, other, column);
        needArgument(row != other);
        needState(turned.isRowFull(row) && turned.isRowFull(other));
        return turned.turnRows(row, other, column);
    }

    public int stir(int grid, int seed, int times)
            throws IndexOutOfBoundsException, IllegalArgumentException, IllegalStateException {
        Grid stirred = gridAt(grid);
        needArgument(seed >= 0 && isFrom(times, 1, MOST_STIRS));
        needState(stirred.isSquare());
        int next = seed;
        for (int i = 0; i < times; i++) {
            next = (int) ((1103515245L * next + 12345L) & 0x7fffffffL);
            turnBy(stirred, next >> 16);
        }
        return next;
    }

    // ---- filling

    public int can(int grid, int row, int column) throws IndexOutOfBoundsException {
        Grid asked = gridAt(grid);
        needCell(asked, row, column);
        return asked.optionsAt(row, column);
    }

    public int fills(int grid, int most) throws IndexOutOfBoundsException, IllegalArgumentException {
        Grid asked = gridAt(grid);
        needArgument(isFrom(most, 1, MOST_FILLS));
        work.copy(asked);
        return Filling.squares(work, most);
    }

    public int fillsAnew(int grid, int most) throws IndexOutOfBoundsException, IllegalArgumentException {
        Grid asked = gridAt(grid);
        needArgument(isFrom(most, 1, MOST_FILLS));
        return rowFilling.squares(asked, most);
    }

    public int fill(int grid) throws IndexOutOfBoundsException, IllegalStateException {
        Grid changed = gridAt(grid);
        work.copy(changed);
        needState(Filling.squares(work, 1) == 1);
        int empty = changed.emptyCells();
        Filling.makeLowest(work);
        changed.copy(work);
        return empty;
    }

    public int forced(int grid) throws IndexOutOfBoundsException {
        Grid asked = gridAt(grid);
        return Move.told(Filling.firstForced(asked), asked.order);
    }

    public int logic(int grid) throws IndexOutOfBoundsException {
        work.copy(gridAt(grid));
        return Filling.fillForced(work);
    }

    public int critical(int grid) throws IndexOutOfBoundsException, IllegalStateException {
        Grid asked = gridAt(grid);
        needState(asked.isSquare() && asked.order < MOST_ORDER);
        return telling.fewestCells(asked);
    }

    // ---- laws

    public int type(long characters, int n) throws IllegalArgumentException, IllegalStateException {
        needArgument(isFrom(n, 1, MOST_TYPED));
        for (int i = 0; i < n; i++) {
            needArgument(Tape.isCharacter(typed(characters, i)));
        }
        needState(tape.length + n <= MOST_CHARACTERS);
        for (int i = 0; i < n; i++) {
            tape.append(typed(characters, i));
        }
        return tape.length;
    }

    public int wipe() {
        int had = tape.length;
        tape.length = 0;
        return had;
    }

    public int fault() {
        return tape.firstFault();
    }

    public int breaks(int grid)
            throws IndexOutOfBoundsException, IllegalArgumentException, IllegalStateException {
        Grid asked = gridAt(grid);
        needArgument(tape.firstFault() == NONE);
        needState(asked.isSquare());
        return tape.firstBreak(asked);
    }

    public int unit(int grid) throws IndexOutOfBoundsException, IllegalStateException {
        Grid asked = gridAt(grid);
        needState(asked.isSquare());
        return Laws.unitOf(asked);
    }

    public int nucleus(int grid, int which)
            throws IndexOutOfBoundsException, IllegalArgumentException, IllegalStateException {
        Grid asked = gridAt(grid);
        needArgument(isFrom(which, 0, 3));
        needState(asked.isSquare());
        return Laws.nucleusOf(asked, which);
    }

    public int closed(int grid, int set)
            throws IndexOutOfBoundsException, IllegalArgumentException, IllegalStateException {
        Grid asked = gridAt(grid);
        needArgument(isFrom(set, 1, asked.allSigns()));
        needState(asked.isSquare());
        return Laws.closedFrom(asked, set);
    }

    public int count(int grid, int what)
            throws IndexOutOfBoundsException, IllegalArgumentException, IllegalStateException {
        Grid asked = gridAt(grid);
        needArgument(isFrom(what, 0, 4));
        needState(asked.isSquare());
        switch (what) {
            case 0:
                return Laws.closedSets(asked);
            case 1:
                return symmetry.automorphisms(asked);
            case 2:
                return symmetry.groupSize(asked, true, false);
            case 3:
                return symmetry.groupSize(asked, false, true);
            default:
                return symmetry.groupSize(asked, true, true);
        }
    }

    public int isotopies(int grid, int other) throws IndexOutOfBoundsException, IllegalStateException {
        Grid from = gridAt(grid);
        Grid to = gridAt(other);
        needState(from.isSquare() && to.isSquare());
        return from.order == to.order ? symmetry.isotopiesBetween(from, to) : 0;
    }

    // ---- mates

    public int transversals(int grid) throws IndexOutOfBoundsException, IllegalStateException {
        Grid asked = gridAt(grid);
        needState(asked.isSquare());
        return mating.findTransversals(asked);
    }

    public int mates(int grid) throws IndexOutOfBoundsException, IllegalStateException {
        Grid asked = gridAt(grid);
        needState(asked.isSquare());
        return mating.findMates(asked);
    }

    public int mate(int grid) throws IndexOutOfBoundsException, IllegalStateException {
        Grid asked = gridAt(grid);
        needState(asked.isSquare());
        needState(mating.findMates(asked) > 0);
        newGrid(asked.order).copy(mating.lowest);
        return made - 1;
    }

    public boolean areMates(int grid, int other) throws IndexOutOfBoundsException, IllegalStateException {
        Grid first = gridAt(grid);
        Grid second = gridAt(other);
        needState(first.isSquare() && second.isSquare());
        return first.order == second.order && Mating.haveUnlikePairs(first, second);
    }

    public int parity(int grid, int which)
            throws IndexOutOfBoundsException, IllegalArgumentException, IllegalStateException {
        Grid asked = gridAt(grid);
        needArgument(isFrom(which, 0, 2));
        needState(asked.isSquare());
        return Laws.parityOf(asked, which);
    }

    // ---- the game

    public int wins(int grid) throws IndexOutOfBoundsException, IllegalStateException {
        Grid asked = gridAt(grid);
        needState(asked.emptyCells() <= MOST_PLAYED);
        work.copy(asked);
        return Move.told(Game.winningMove(work), asked.order);
    }

    // ---- what the calls share

    private Grid gridAt(int number) {
        if (number < 0 || number >= made || number >= grids.length || grids[number] == null) {
            throw new IndexOutOfBoundsException("there is no such grid");
        }
        return grids[number];
    }

    private Grid newGrid(int order) {
        if (made < 0 || made >= grids.length || grids[made] == null) {
            throw new IllegalStateException("there are 12 grids");
        }
        Grid fresh = grids[made];
        made++;
        fresh.clear(order);
        return fresh;
    }

    private static void needCell(Grid grid, int row, int column) {
        if (!grid.has(row, column)) {
            throw new IndexOutOfBoundsException("there is no such row or column");
        }
    }

    private static void needArgument(boolean fits) {
        if (!fits) {
            throw new IllegalArgumentException("an argument does not fit");
        }
    }

    private static void needState(boolean allows) {
        if (!allows) {
            throw new IllegalStateException("the grove does not allow it");
        }
    }

    private static boolean isFrom(int value, int least, int most) {
        return value >= least && value <= most;
    }

    private static boolean isIn(int set, int item) {
        return item >= 0 && item < 31 && (set >> item & 1) == 1;
    }

    private static int remainder(int value, int divisor) {
        return divisor > 0 ? value % divisor : 0;
    }

    /** Tells whether the multiples of a factor have all remainders by the order. */
    private static boolean reachesAll(int factor, int order) {
        int reached = 0;
        for (int i = 0; i < order; i++) {
            reached |= 1 << remainder(factor * i, order);
        }
        return reached == (1 << order) - 1;
    }

    private static void setConjugate(Grid fresh, int how, int row, int column, int sign) {
        switch (how) {
            case 0:
                fresh.set(row, column, sign);
                break;
            case 1:
                fresh.set(column, row, sign);
                break;
            case 2:
                fresh.set(row, sign, column);
                break;
            case 3:
                fresh.set(sign, column, row);
                break;
            case 4:
                fresh.set(column, sign, row);
                break;
            default:
                fresh.set(sign, row, column);
                break;
        }
    }

    private static void turnBy(Grid square, int q) {
        int n = square.order;
        if (n < LEAST_ORDER || n > MOST_ORDER) {
            return;
        }
        int first = q % n;
        int second = (first + 1 + q / n % (n - 1)) % n;
        square.turnRows(first, second, q / (n * n) % n);
    }

    private static int typed(long characters, int place) {
        return (int) (characters >>> (8 * place) & 255L);
    }

    /** The cells of one grid, and which signs each of its rows and columns has. */
    private static final class Grid {
        private final int[] signs = new int[MOST_CELLS];
        private final int[] rowSets = new int[MOST_ORDER];
        private final int[] columnSets = new int[MOST_ORDER];
        private int order = LEAST_ORDER;
        private int filled = 0;

        void clear(int newOrder) {
            order = Math.max(LEAST_ORDER, Math.min(newOrder, MOST_ORDER));
            filled = 0;
            for (int i = 0; i < MOST_CELLS; i++) {
                signs[i] = NONE;
            }
            for (int i = 0; i < MOST_ORDER; i++) {
                rowSets[i] = 0;
                columnSets[i] = 0;
            }
        }

        void copy(Grid other) {
            order = other.order;
            filled = other.filled;
            for (int i = 0; i < MOST_CELLS; i++) {
                signs[i] = other.signs[i];
            }
            for (int i = 0; i < MOST_ORDER; i++) {
                rowSets[i] = other.rowSets[i];
                columnSets[i] = other.columnSets[i];
            }
        }

        boolean has(int row, int column) {
            return isLine(row) && isLine(column);
        }

        // The second bound is that of the arrays, so that no order can lead beyond them.
        private boolean isLine(int line) {
            return line >= 0 && line < order && line < MOST_ORDER;
        }

        int signAt(int row, int column) {
            return has(row, column) ? signs[MOST_ORDER * row + column] : NONE;
        }

        int columnOf(int row, int sign) {
            for (int column = 0; column < order; column++) {
                if (signAt(row, column) == sign) {
                    return column;
                }
            }
            return NONE;
        }

        int allSigns() {
            return (1 << order) - 1;
        }

        int optionsAt(int row, int column) {
            if (!has(row, column) || signs[MOST_ORDER * row + column] != NONE) {
                return 0;
            }
            return allSigns() & ~(rowSets[row] | columnSets[column]);
        }

        boolean hasInLines(int row, int column, int sign) {
            return has(row, column) && isIn(rowSets[row] | columnSets[column], sign);
        }

        /** Sets a sign that is in no other cell of the row or the column, or empties the cell. */
        void set(int row, int column, int sign) {
            if (!has(row, column) || sign < NONE || sign >= order) {
                return;
            }
            int old = signs[MOST_ORDER * row + column];
            if (old != NONE) {
                rowSets[row] &= ~(1 << old);
                columnSets[column] &= ~(1 << old);
                filled--;
            }
            if (sign != NONE) {
                rowSets[row] |= 1 << sign;
                columnSets[column] |= 1 << sign;
                filled++;
            }
            signs[MOST_ORDER * row + column] = sign;
        }

        int emptyCells() {
            return order * order - filled;
        }

        boolean isSquare() {
            return emptyCells() == 0;
        }

        boolean isRowFull(int row) {
            return isLine(row) && rowSets[row] == allSigns();
        }

        int deadCells() {
            int dead = 0;
            for (int row = 0; row < order; row++) {
                for (int column = 0; column < order; column++) {
                    if (signAt(row, column) == NONE && optionsAt(row, column) == 0) {
                        dead++;
                    }
                }
            }
            return dead;
        }

        /**
         * Turns two full rows. A column that was exchanged no longer has what the
         * second row seeks in the first one, so the way ends by itself at its start.
         */
        int turnRows(int first, int second, int start) {
            int turned = 0;
            int column = start;
            while (turned < order && column != NONE) {
                int next = columnOf(first, signAt(second, column));
                exchange(first, second, column);
                column = next;
                turned++;
            }
            return turned;
        }

        // The sets stay as they are: both rows are full before and after the turn.
        private void exchange(int first, int second, int column) {
            if (has(first, column) && has(second, column)) {
                int kept = signs[MOST_ORDER * first + column];
                signs[MOST_ORDER * first + column] = signs[MOST_ORDER * second + column];
                signs[MOST_ORDER * second + column] = kept;
            }
        }

        boolean isLowerThan(Grid other) {
            for (int i = 0; i < MOST_CELLS; i++) {
                if (signs[i] != other.signs[i]) {
                    return signs[i] < other.signs[i];
                }
            }
            return false;
        }
    }

    /**
     * A cell and a sign in one number, with rows of five cells for every order, so
     * that they come out of it again without a division by the order.
     */
    private static final class Move {
        static int packed(int row, int column, int sign) {
            return 10 * (MOST_ORDER * row + column) + sign;
        }

        static int row(int move) {
            return move / (10 * MOST_ORDER);
        }

        static int column(int move) {
            return move / 10 % MOST_ORDER;
        }

        static int sign(int move) {
            return move % 10;
        }

        static int told(int move, int order) {
            return move == NONE ? NONE : 10 * (order * row(move) + column(move)) + sign(move);
        }
    }

    /**
     * All maps of five numbers, in an order in which those of n numbers, which leave
     * the higher ones where they are, come first.
     */
    private static final class Maps {
        private static final int[] FACTORIALS = {1, 1, 2, 6, 24, 120};

        private final int[] images = new int[MOST_MAPS * MOST_ORDER];
        private final int[] pairs = new int[MOST_MAPS];
        private final int[] draft = new int[MOST_ORDER];

        Maps() {
            for (int map = 0; map < MOST_MAPS; map++) {
                arrange(map);
                for (int item = 0; item < MOST_ORDER; item++) {
                    pairs[map] |= 1 << (MOST_ORDER * item + images[MOST_ORDER * map + item]);
                }
            }
        }

        // Each digit of the map's number tells how many lesser numbers come behind one.
        private void arrange(int map) {
            int start = MOST_ORDER * map;
            int rest = map;
            for (int item = 0; item < MOST_ORDER; item++) {
                int place = start + item;
                int behind = rest % (item + 1);
                rest /= item + 1;
                for (int i = 0; i < behind && place > 0 && place < images.length; i++) {
                    images[place] = images[place - 1];
                    place--;
                }
                if (place >= 0 && place < images.length) {
                    images[place] = item;
                }
            }
        }

        int amount(int order) {
            return order >= 0 && order < FACTORIALS.length ? FACTORIALS[order] : 0;
        }

        int imageOf(int map, int item) {
            boolean known = map >= 0 && map < MOST_MAPS && item >= 0 && item < MOST_ORDER;
            return known ? images[MOST_ORDER * map + item] : NONE;
        }

        /** The set of the numbers 5 times i, and what i becomes, together. */
        int pairsOf(int map, int order) {
            return map >= 0 && map < MOST_MAPS ? pairs[map] & ((1 << MOST_ORDER * order) - 1) : 0;
        }

        int numberOfCode(int code, int order) {
            int rest = code;
            for (int item = 0; item < order; item++) {
                write(item, rest % 10);
                rest /= 10;
            }
            return rest == 0 ? numberOfDraft(order) : NONE;
        }

        int oneBehindOther(int first, int second, int order) {
            for (int item = 0; item < order; item++) {
                write(item, imageOf(second, imageOf(first, item)));
            }
            return numberOfDraft(order);
        }

        void write(int item, int image) {
            if (item >= 0 && item < MOST_ORDER) {
                draft[item] = image;
            }
        }

        int numberOfDraft(int order) {
            int number = 0;
            int seen = 0;
            for (int i = 0; i < order && i < MOST_ORDER; i++) {
                int image = draft[i];
                if (image < 0 || image >= order || image >= MOST_ORDER) {
                    return NONE;
                }
                seen |= 1 << image;
                for (int j = i + 1; j < order && j < MOST_ORDER; j++) {
                    number += draft[j] < image ? FACTORIALS[image] : 0;
                }
            }
            return seen == (1 << order) - 1 ? number : NONE;
        }
    }

    /** Fills a grid cell by cell, the one with the fewest options first, or as far as it is forced. */
    private static final class Filling {
        static int squares(Grid work, int most) {
            return squaresFrom(work, most, 0);
        }

        /** Makes of a grid that some square fills the lowest one. */
        static void makeLowest(Grid work) {
            for (int row = 0; row < work.order; row++) {
                for (int column = 0; column < work.order; column++) {
                    setLowest(work, row, column);
                }
            }
        }

        private static void setLowest(Grid work, int row, int column) {
            int options = work.optionsAt(row, column);
            for (int sign = 0; sign < work.order; sign++) {
                if (isIn(options, sign)) {
                    work.set(row, column, sign);
                    if (squaresFrom(work, 1, 0) == 1) {
                        return;
                    }
                    work.set(row, column, NONE);
                }
            }
        }

        private static int squaresFrom(Grid work, int most, int depth) {
            int cell = tightestCell(work);
            if (cell == NONE) {
                return 1;
            }
            if (depth >= MOST_CELLS) {
                return 0;
            }
            int row = cell / MOST_ORDER;
            int column = cell % MOST_ORDER;
            int options = work.optionsAt(row, column);
            int found = 0;
            for (int sign = 0; sign < work.order && found < most; sign++) {
                if (isIn(options, sign)) {
                    work.set(row, column, sign);
                    found += squaresFrom(work, most - found, depth + 1);
                    work.set(row, column, NONE);
                }
            }
            return found;
        }

        private static int tightestCell(Grid work) {
            int tightest = NONE;
            int fewest = MOST_ORDER + 1;
            for (int row = 0; row < work.order; row++) {
                for (int column = 0; column < work.order; column++) {
                    int options = Integer.bitCount(work.optionsAt(row, column));
                    if (options < fewest && work.signAt(row, column) == NONE) {
                        tightest = MOST_ORDER * row + column;
                        fewest = options;
                    }
                }
            }
            return tightest;
        }

        static int firstForced(Grid grid) {
            for (int row = 0; row < grid.order; row++) {
                for (int column = 0; column < grid.order; column++) {
                    for (int sign = 0; sign < grid.order; sign++) {
                        if (isForced(grid, row, column, sign)) {
                            return Move.packed(row, column, sign);
                        }
                    }
                }
            }
            return NONE;
        }

        static int fillForced(Grid work) {
            int filled = 0;
            int move = firstForced(work);
            while (move != NONE && filled < MOST_CELLS) {
                work.set(Move.row(move), Move.column(move), Move.sign(move));
                filled++;
                move = firstForced(work);
            }
            return filled;
        }

        private static boolean isForced(Grid grid, int row, int column, int sign) {
            int options = grid.optionsAt(row, column);
            return isIn(options, sign)
                    && (options == 1 << sign
                    || isAloneInRow(grid, row, column, sign)
                    || isAloneInColumn(grid, row, column, sign));
        }

        private static boolean isAloneInRow(Grid grid, int row, int column, int sign) {
            for (int other = 0; other < grid.order; other++) {
                if (other != column && isIn(grid.optionsAt(row, other), sign)) {
                    return false;
                }
            }
            return true;
        }

        private static boolean isAloneInColumn(Grid grid, int row, int column, int sign) {
            for (int other = 0; other < grid.order; other++) {
                if (other != row && isIn(grid.optionsAt(other, column), sign)) {
                    return false;
                }
            }
            return true;
        }
    }

    /** Fills a grid row by row, going through all maps for each, the tightest row first. */
    private static final class RowFilling {
        private final Maps maps;
        private final int[] allowed = new int[MOST_ORDER];

        RowFilling(Maps maps) {
            this.maps = maps;
        }

        int squares(Grid grid, int most) {
            for (int row = 0; row < grid.order && row < MOST_ORDER; row++) {
                allowed[row] = pairsAllowed(grid, row);
            }
            return squaresFrom(this, grid.order, grid.allSigns(), 0, most, 0);
        }

        private static int pairsAllowed(Grid grid, int row) {
            int pairs = 0;
            for (int column = 0; column < grid.order; column++) {
                int sign = grid.signAt(row, column);
                int options = sign == NONE ? grid.optionsAt(row, column) : 1 << sign;
                pairs |= options << MOST_ORDER * column;
            }
            return pairs;
        }

        private static int squaresFrom(
                RowFilling self, int order, int rowsLeft, int taken, int most, int depth) {
            if (rowsLeft == 0) {
                return 1;
            }
            int row = self.tightestRow(order, rowsLeft, taken);
            if (row == NONE || depth >= MOST_ORDER) {
                return 0;
            }
            int found = 0;
            for (int map = 0; map < self.maps.amount(order) && found < most; map++) {
                int pairs = self.maps.pairsOf(map, order);
                if (self.fits(row, pairs, taken)) {
                    int others = rowsLeft & ~(1 << row);
                    found += squaresFrom(self, order, others, taken | pairs, most - found, depth + 1);
                }
            }
            return found;
        }

        private int tightestRow(int order, int rowsLeft, int taken) {
            int tightest = NONE;
            int fewest = MOST_MAPS + 1;
            for (int row = 0; row < order; row++) {
                int fitting = isIn(rowsLeft, row) ? mapsThatFit(order, row, taken) : fewest;
                if (fitting < fewest) {
                    tightest = row;
                    fewest = fitting;
                }
            }
            return tightest;
        }

        private int mapsThatFit(int order, int row, int taken) {
            int fitting = 0;
            for (int map = 0; map < maps.amount(order); map++) {
                if (fits(row, maps.pairsOf(map, order), taken)) {
                    fitting++;
                }
            }
            return fitting;
        }

        private boolean fits(int row, int pairs, int taken) {
            return row >= 0 && row < MOST_ORDER && (pairs & ~(allowed[row] & ~taken)) == 0;
        }
    }

    /**
     * Finds how few cells tell a square. Cells tell it if they meet each trade, that
     * is each set of cells in which another square is unlike it; a trade that has
     * all of another one need not be kept, as what meets the lesser one meets it too.
     */
    private static final class Telling {
        private static final int MOST_TRADES = 576;

        private final Maps maps;
        private final int[] trades = new int[MOST_TRADES];
        private int kept = 0;

        Telling(Maps maps) {
            this.maps = maps;
        }

        int fewestCells(Grid square) {
            int cells = square.order * square.order;
            kept = 0;
            gather(this, square, 0, 0, 0);
            for (int size = 0; size < cells; size++) {
                if (someMeet(this, cells, 0, 0, size)) {
                    return size;
                }
            }
            return cells;
        }

        private static void gather(Telling self, Grid square, int row, int taken, int trade) {
            if (row >= square.order) {
                self.keep(trade);
                return;
            }
            for (int map = 0; map < self.maps.amount(square.order); map++) {
                int pairs = self.maps.pairsOf(map, square.order);
                if ((pairs & taken) == 0) {
                    gather(self, square, row + 1, taken | pairs, trade | self.unlike(square, row, map));
                }
            }
        }

        private int unlike(Grid square, int row, int map) {
            int cells = 0;
            for (int column = 0; column < square.order; column++) {
                if (square.signAt(row, column) != maps.imageOf(map, column)) {
                    cells |= 1 << (square.order * row + column);
                }
            }
            return cells;
        }

        // The empty trade is that of the square with itself.
        private void keep(int trade) {
            if (trade == 0) {
                return;
            }
            int others = 0;
            for (int i = 0; i < kept && i < MOST_TRADES; i++) {
                int old = trades[i];
                if ((old & trade) == old) {
                    return;
                }
                if ((old & trade) != trade && others < MOST_TRADES) {
                    trades[others] = old;
                    others++;
                }
            }
            if (others < MOST_TRADES) {
                trades[others] = trade;
                kept = others + 1;
            }
        }

        private static boolean someMeet(Telling self, int cells, int from, int chosen, int left) {
            if (left <= 0) {
                return self.meetsAll(chosen);
            }
            for (int cell = from; cell < cells; cell++) {
                if (someMeet(self, cells, cell + 1, chosen | 1 << cell, left - 1)) {
                    return true;
                }
            }
            return false;
        }

        private boolean meetsAll(int chosen) {
            for (int i = 0; i < kept && i < MOST_TRADES; i++) {
                if ((trades[i] & chosen) == 0) {
                    return false;
                }
            }
            return true;
        }
    }

    /** The text of an identity, as far as it was typed. */
    private static final class Tape {
        private final int[] characters = new int[MOST_CHARACTERS];
        private final int[] wordsAt = new int[MOST_CHARACTERS + 1];
        private final int[] values = new int[MOST_CHARACTERS];
        private int length = 0;

        static boolean isCharacter(int character) {
            return isLetter(character) || character == '(' || character == ')' || character == '=';
        }

        private static boolean isLetter(int character) {
            return character >= 'x' && character <= 'z';
        }

        void append(int character) {
            if (length >= 0 && length < MOST_CHARACTERS) {
                characters[length] = character;
                length++;
            }
        }

        /** Goes through the tape, with the number of words in each bracket that is open. */
        int firstFault() {
            int depth = 0;
            int side = 0;
            wordsAt[0] = 0;
            for (int i = 0; i < length && i < MOST_CHARACTERS; i++) {
                int character = characters[i];
                if (!canFollow(character, depth, side)) {
                    return i;
                }
                if (character == '=') {
                    side++;
                    wordsAt[0] = 0;
                } else if (character == '(') {
                    depth++;
                    beginBracket(depth);
                } else {
                    depth -= character == ')' ? 1 : 0;
                    endWord(depth);
                }
            }
            return side == 1 && depth == 0 && wordsAt[0] == 1 ? NONE : length;
        }

        private boolean canFollow(int character, int depth, int side) {
            if (depth < 0 || depth >= MOST_CHARACTERS) {
                return false;
            }
            int words = wordsAt[depth];
            switch (character) {
                case ')':
                    return depth > 0 && words == 2;
                case '=':
                    return depth == 0 && side == 0 && words == 1;
                default:
                    return words < (depth == 0 ? 1 : 2);
            }
        }

        private void beginBracket(int depth) {
            if (depth >= 0 && depth < wordsAt.length) {
                wordsAt[depth] = 0;
            }
        }

        private void endWord(int depth) {
            if (depth >= 0 && depth < wordsAt.length) {
                wordsAt[depth]++;
            }
        }

        /** For a tape that is an identity. */
        int firstBreak(Grid square) {
            int n = square.order;
            int endX = hasCharacter('x') ? n : 1;
            int endY = hasCharacter('y') ? n : 1;
            int endZ = hasCharacter('z') ? n : 1;
            for (int z = 0; z < endZ; z++) {
                for (int y = 0; y < endY; y++) {
                    for (int x = 0; x < endX; x++) {
                        if (!holds(square, x, y, z)) {
                            return x + n * y + n * n * z;
                        }
                    }
                }
            }
            return NONE;
        }

        private boolean hasCharacter(int character) {
            for (int i = 0; i < length && i < MOST_CHARACTERS; i++) {
                if (characters[i] == character) {
                    return true;
                }
            }
            return false;
        }

        // Only letters and closing brackets change the pile of values, so that in the
        // end it has the values of both words.
        private boolean holds(Grid square, int x, int y, int z) {
            int top = 0;
            for (int i = 0; i < length && i < MOST_CHARACTERS; i++) {
                int character = characters[i];
                if (isLetter(character) && top >= 0 && top < values.length) {
                    values[top] = character == 'x' ? x : character == 'y' ? y : z;
                    top++;
                } else if (character == ')' && top >= 2 && top <= values.length) {
                    values[top - 2] = square.signAt(values[top - 2], values[top - 1]);
                    top--;
                }
            }
            return values[0] == values[1];
        }
    }

    /** What the products of a square tell. */
    private static final class Laws {
        static int unitOf(Grid square) {
            for (int e = 0; e < square.order; e++) {
                if (isUnit(square, e)) {
                    return e;
                }
            }
            return NONE;
        }

        private static boolean isUnit(Grid square, int e) {
            for (int a = 0; a < square.order; a++) {
                if (square.signAt(e, a) != a || square.signAt(a, e) != a) {
                    return false;
                }
            }
            return true;
        }

        static int nucleusOf(Grid square, int which) {
            int set = 0;
            for (int a = 0; a < square.order; a++) {
                if (isInNucleus(square, which, a)) {
                    set |= 1 << a;
                }
            }
            return set;
        }

        private static boolean isInNucleus(Grid square, int which, int a) {
            if (which == 3) {
                return associatesAt(square, 0, a) && associatesAt(square, 1, a)
                        && associatesAt(square, 2, a) && commutes(square, a);
            }
            return associatesAt(square, which, a);
        }

        private static boolean associatesAt(Grid square, int place, int a) {
            for (int b = 0; b < square.order; b++) {
                for (int c = 0; c < square.order; c++) {
                    boolean alike;
                    switch (place) {
                        case 0:
                            alike = associates(square, a, b, c);
                            break;
                        case 1:
                            alike = associates(square, b, a, c);
                            break;
                        default:
                            alike = associates(square, b, c, a);
                            break;
                    }
                    if (!alike) {
                        return false;
                    }
                }
            }
            return true;
        }

        private static boolean associates(Grid square, int a, int b, int c) {
            return square.signAt(square.signAt(a, b), c) == square.signAt(a, square.signAt(b, c));
        }

        private static boolean commutes(Grid square, int a) {
            for (int b = 0; b < square.order; b++) {
                if (square.signAt(a, b) != square.signAt(b, a)) {
                    return false;
                }
            }
            return true;
        }

        // Each round but the last adds a number, so there are no more rounds than numbers.
        static int closedFrom(Grid square, int set) {
            int grown = set;
            for (int round = 0; round < square.order; round++) {
                grown |= productsOf(square, grown);
            }
            return grown;
        }

        static int closedSets(Grid square) {
            int sets = 0;
            for (int set = 1; set <= square.allSigns(); set++) {
                if ((productsOf(square, set) & ~set) == 0) {
                    sets++;
                }
            }
            return sets;
        }

        private static int productsOf(Grid square, int set) {
            int products = 0;
            for (int a = 0; a < square.order; a++) {
                for (int b = 0; b < square.order; b++) {
                    if (isIn(set, a) && isIn(set, b)) {
                        products |= 1 << square.signAt(a, b);
                    }
                }
            }
            return products;
        }

        static int parityOf(Grid square, int which) {
            int pairs = 0;
            for (int line = 0; line < square.order; line++) {
                for (int high = 1; high < square.order; high++) {
                    for (int low = 0; low < high; low++) {
                        if (entry(square, which, line, high) < entry(square, which, line, low)) {
                            pairs++;
                        }
                    }
                }
            }
            return pairs & 1;
        }

        // The conjugate 5 has in the row of a sign, for each row, the column of the sign.
        private static int entry(Grid square, int which, int line, int place) {
            switch (which) {
                case 0:
                    return square.signAt(line, place);
                case 1:
                    return square.signAt(place, line);
                default:
                    return square.columnOf(place, line);
            }
        }
    }

    /** Maps that keep all, and what the maps of rows and columns make together. */
    private static final class Symmetry {
        private final Maps maps;
        private final int[] makers = new int[2 * MOST_ORDER];
        private final int[] members = new int[MOST_MAPS];
        private final boolean[] isMember = new boolean[MOST_MAPS];
        private final int[] signMap = new int[MOST_ORDER];
        private int makerCount = 0;
        private int memberCount = 0;

        Symmetry(Maps maps) {
            this.maps = maps;
        }

        int automorphisms(Grid square) {
            int found = 0;
            for (int map = 0; map < maps.amount(square.order); map++) {
                if (keepsProducts(square, map)) {
                    found++;
                }
            }
            return found;
        }

        private boolean keepsProducts(Grid square, int map) {
            for (int a = 0; a < square.order; a++) {
                for (int b = 0; b < square.order; b++) {
                    int product = square.signAt(maps.imageOf(map, a), maps.imageOf(map, b));
                    if (maps.imageOf(map, square.signAt(a, b)) != product) {
                        return false;
                    }
                }
            }
            return true;
        }

        int groupSize(Grid square, boolean ofRows, boolean ofColumns) {
            makerCount = 0;
            for (int a = 0; a < square.order; a++) {
                if (ofRows) {
                    addMaker(rowMap(square, a));
                }
                if (ofColumns) {
                    addMaker(columnMap(square, a));
                }
            }
            clearMembers();
            addMember(0);
            for (int i = 0; i < memberCount && i < MOST_MAPS; i++) {
                for (int j = 0; j < makerCount && j < makers.length; j++) {
                    addMember(maps.oneBehindOther(members[i], makers[j], square.order));
                }
            }
            return memberCount;
        }

        private int rowMap(Grid square, int a) {
            for (int b = 0; b < square.order; b++) {
                maps.write(b, square.signAt(a, b));
            }
            return maps.numberOfDraft(square.order);
        }

        private int columnMap(Grid square, int a) {
            for (int b = 0; b < square.order; b++) {
                maps.write(b, square.signAt(b, a));
            }
            return maps.numberOfDraft(square.order);
        }

        private void addMaker(int map) {
            if (makerCount >= 0 && makerCount < makers.length) {
                makers[makerCount] = map;
                makerCount++;
            }
        }

        private void clearMembers() {
            memberCount = 0;
            for (int map = 0; map < MOST_MAPS; map++) {
                isMember[map] = false;
            }
        }

        private void addMember(int map) {
            if (map < 0 || map >= MOST_MAPS || isMember[map]) {
                return;
            }
            if (memberCount >= 0 && memberCount < MOST_MAPS) {
                isMember[map] = true;
                members[memberCount] = map;
                memberCount++;
            }
        }

        /** The row map and the place of the column 0 leave no choice for all the rest. */
        int isotopiesBetween(Grid from, Grid to) {
            int found = 0;
            for (int rows = 0; rows < maps.amount(from.order); rows++) {
                for (int column = 0; column < from.order; column++) {
                    mapSigns(from, to, rows, column);
                    if (bringsAllColumns(from, to, rows)) {
                        found++;
                    }
                }
            }
            return found;
        }

        private void mapSigns(Grid from, Grid to, int rows, int column) {
            for (int row = 0; row < from.order; row++) {
                int sign = from.signAt(row, 0);
                if (sign >= 0 && sign < MOST_ORDER) {
                    signMap[sign] = to.signAt(maps.imageOf(rows, row), column);
                }
            }
        }

        private boolean bringsAllColumns(Grid from, Grid to, int rows) {
            for (int column = 1; column < from.order; column++) {
                int goal = to.columnOf(maps.imageOf(rows, 0), mapped(from.signAt(0, column)));
                for (int row = 1; row < from.order; row++) {
                    if (to.signAt(maps.imageOf(rows, row), goal) != mapped(from.signAt(row, column))) {
                        return false;
                    }
                }
            }
            return true;
        }

        private int mapped(int sign) {
            return sign >= 0 && sign < MOST_ORDER ? signMap[sign] : NONE;
        }
    }

    /**
     * Transversals and mates. The cells in which a mate has one sign are a
     * transversal, so a mate with 0, 1, 2 and so on in its row 0 is a choice of
     * transversals without a common cell, one from each cell of the row 0.
     */
    private static final class Mating {
        private final Maps maps;
        private final int[] transversals = new int[MOST_MAPS];
        private final int[] chosen = new int[MOST_ORDER];
        private final Grid draft = new Grid();
        private final Grid lowest = new Grid();
        private int found = 0;
        private int laid = 0;

        Mating(Maps maps) {
            this.maps = maps;
        }

        int findTransversals(Grid square) {
            found = 0;
            for (int map = 0; map < maps.amount(square.order); map++) {
                if (hasAllSigns(square, map) && found >= 0 && found < MOST_MAPS) {
                    transversals[found] = map;
                    found++;
                }
            }
            return found;
        }

        private boolean hasAllSigns(Grid square, int map) {
            int seen = 0;
            for (int row = 0; row < square.order; row++) {
                seen |= 1 << square.signAt(row, maps.imageOf(map, row));
            }
            return seen == square.allSigns();
        }

        /** Counts the mates, and leaves the lowest one in lowest, if there is one. */
        int findMates(Grid square) {
            findTransversals(square);
            laid = 0;
            layFrom(this, square.order, 0, 0);
            return laid;
        }

        private static void layFrom(Mating self, int order, int column, int taken) {
            if (column < 0 || column >= order || column >= MOST_ORDER) {
                self.keepLower(order);
                return;
            }
            for (int i = 0; i < self.found && i < MOST_MAPS; i++) {
                int map = self.transversals[i];
                int cells = self.maps.pairsOf(map, order);
                if (self.maps.imageOf(map, 0) == column && (cells & taken) == 0) {
                    self.chosen[column] = map;
                    layFrom(self, order, column + 1, taken | cells);
                }
            }
        }

        private void keepLower(int order) {
            draft.clear(order);
            for (int sign = 0; sign < order && sign < MOST_ORDER; sign++) {
                for (int row = 0; row < order; row++) {
                    draft.set(row, maps.imageOf(chosen[sign], row), sign);
                }
            }
            if (laid == 0 || draft.isLowerThan(lowest)) {
                lowest.copy(draft);
            }
            laid++;
        }

        static boolean haveUnlikePairs(Grid first, Grid second) {
            int seen = 0;
            for (int row = 0; row < first.order; row++) {
                for (int column = 0; column < first.order; column++) {
                    int pair = MOST_ORDER * first.signAt(row, column) + second.signAt(row, column);
                    if (isIn(seen, pair)) {
                        return false;
                    }
                    seen |= 1 << pair;
                }
            }
            return true;
        }
    }

    /** Two players fill a grid in turn; who cannot has lost. */
    private static final class Game {
        static int winningMove(Grid work) {
            return winningFrom(work, 0);
        }

        private static int winningFrom(Grid work, int depth) {
            if (depth > MOST_PLAYED) {
                return NONE;
            }
            for (int row = 0; row < work.order; row++) {
                for (int column = 0; column < work.order; column++) {
                    int options = work.optionsAt(row, column);
                    for (int sign = 0; sign < work.order; sign++) {
                        if (isIn(options, sign) && winsBy(work, row, column, sign, depth)) {
                            return Move.packed(row, column, sign);
                        }
                    }
                }
            }
            return NONE;
        }

        private static boolean winsBy(Grid work, int row, int column, int sign, int depth) {
            work.set(row, column, sign);
            boolean wins = winningFrom(work, depth + 1) == NONE;
            work.set(row, column, NONE);
            return wins;
        }
    }
}
