/** How the tests make grids of texts, show them as texts, and type texts. */
final class Groves {
    static final int MOST_GRIDS = 12;

    private Groves() {
    }

    /** Makes a grid of its rows, a dot for an empty cell. */
    static int made(Quasigrove g, String... rows) {
        int grid = g.grid(rows.length);
        for (int r = 0; r < rows.length; r++) {
            for (int c = 0; c < rows.length; c++) {
                char sign = rows[r].charAt(c);
                if (sign != '.') {
                    g.put(grid, r, c, sign - '0');
                }
            }
        }
        return grid;
    }

    static String shown(Quasigrove g, int grid) {
        int n = g.of(grid, 0);
        StringBuilder text = new StringBuilder();
        for (int cell = 0; cell < n * n; cell++) {
            int sign = g.cell(grid, cell / n, cell % n);
            text.append(cell > 0 && cell % n == 0 ? "/" : "").append(sign < 0 ? "." : String.valueOf(sign));
        }
        return text.toString();
    }

    /** All that can be seen of a grove without changing it: its grids, and the fault of its tape. */
    static String shown(Quasigrove g) {
        StringBuilder text = new StringBuilder();
        for (int grid = 0; has(g, grid); grid++) {
            text.append(shown(g, grid)).append(' ');
        }
        return text.append(g.fault()).toString();
    }

    private static boolean has(Quasigrove g, int grid) {
        try {
            return g.of(grid, 0) > 0;
        } catch (IndexOutOfBoundsException none) {
            return false;
        }
    }

    /** The characters as type takes them, the first one in the lowest bits. */
    static long packed(String text) {
        long characters = 0;
        for (int i = 0; i < text.length(); i++) {
            characters |= (long) text.charAt(i) << 8 * i;
        }
        return characters;
    }

    /** Empties the tape and types a text, eight characters a call. */
    static void type(Quasigrove g, String text) {
        g.wipe();
        for (int i = 0; i < text.length(); i += 8) {
            String piece = text.substring(i, Math.min(text.length(), i + 8));
            g.type(packed(piece), piece.length());
        }
    }

    /** Makes empty grids of the order 2 until there are so many grids. */
    static void makeUpTo(Quasigrove g, int grids) {
        int made = 0;
        while (has(g, made)) {
            made++;
        }
        for (; made < grids; made++) {
            g.grid(2);
        }
    }
}
