import java.lang.management.ManagementFactory;

/**
 * The dearest calls, 400 times each on one object, which was used for some calls
 * before, take hardly any room and end soon; an object is used for 512 calls at most.
 * 600,000 objects and 7.3 million fields and elements are the limit of a whole run.
 */
public final class RoomTest {
    private static final int CALLS = 400;
    private static final long MOST_BYTES = 3_000_000;

    private interface Asked {
        int of(Quasigrove grove, int call);
    }

    public static void main(String[] args) {
        Check.begin();
        run("new objects", (g, i) -> new Quasigrove().wipe());
        run("fills", (g, i) -> g.fills(0, 1000));
        run("fills, none", (g, i) -> g.fills(6, 1000));
        run("fillsAnew", (g, i) -> g.fillsAnew(0, 1000));
        run("fillsAnew, none", (g, i) -> g.fillsAnew(6, 1000));
        run("fill", (g, i) -> g.fill(0));
        run("logic", (g, i) -> g.logic(5));
        run("critical", (g, i) -> g.critical(2));
        run("isotopies", (g, i) -> g.isotopies(1, 1));
        run("groups", (g, i) -> g.count(3, 4));
        run("mates", (g, i) -> g.mates(1));
        run("wins", (g, i) -> g.wins(4));
        run("breaks", (g, i) -> g.breaks(1));
        run("stir", (g, i) -> g.stir(3, i, 50));
        Check.end();
    }

    private static void run(String what, Asked asked) {
        Quasigrove grove = grove();
        long bytes = bytes();
        long start = System.nanoTime();
        for (int i = 0; i < CALLS; i++) {
            asked.of(grove, i);
        }
        long taken = bytes() - bytes;
        long millis = (System.nanoTime() - start) / 1_000_000;
        System.out.println(what + ": " + taken + " bytes, " + millis + " ms");
        boolean made = what.equals("new objects");
        Check.due(what + " takes little room", true, () -> taken < (made ? 4 * MOST_BYTES : MOST_BYTES));
        Check.due(what + " ends soon", true, () -> millis < 20_000);
    }

    private static long bytes() {
        com.sun.management.ThreadMXBean threads =
                (com.sun.management.ThreadMXBean) ManagementFactory.getThreadMXBean();
        return threads.getThreadAllocatedBytes(Thread.currentThread().getId());
    }

    private static Quasigrove grove() {
        Quasigrove grove = new Quasigrove();
        grove.grid(5);
        grove.linear(5, 1, 1, 0);
        grove.linear(4, 1, 1, 0);
        grove.linear(5, 1, 2, 0);
        grove.stir(3, 12345, 50);
        // six cells empty, in three rows and two columns
        grove.linear(5, 1, 1, 0);
        for (int cell = 0; cell < 6; cell++) {
            grove.put(4, cell / 2, cell % 2 * 2, Quasigrove.NONE);
        }
        grove.grid(5);
        for (int i = 0; i < 5; i++) {
            grove.put(5, 0, i, i);
            grove.put(5, i, 0, i);
        }
        // nothing fills it, which only the last rows tell
        grove.grid(5);
        for (int i = 0; i < 3; i++) {
            grove.put(6, 3, i, i);
        }
        grove.put(6, 4, 3, 3);
        grove.put(6, 4, 4, 4);
        Groves.type(grove, "((((xy)z)x)(yz))=((((xy)z)x)(yz))");
        return grove;
    }
}
