import java.util.ArrayList;
import java.util.List;

/** What the tests share: calls whose answer or exception is due, and the count of those that are not. */
final class Check {
    interface Call {
        Object answer();
    }

    private static final List<String> WRONG = new ArrayList<>();
    private static final long MOST_SECONDS = 300;
    private static int calls = 0;

    private Check() {
    }

    /** Ends the whole test as a failed one, if a call does not end. */
    static void begin() {
        Thread watch = new Thread(() -> {
            try {
                Thread.sleep(1000 * MOST_SECONDS);
            } catch (InterruptedException e) {
                return;
            }
            System.out.println("no end after " + MOST_SECONDS + " seconds, behind " + calls + " answers");
            Runtime.getRuntime().halt(1);
        });
        watch.setDaemon(true);
        watch.start();
    }

    static void due(String what, Object want, Call call) {
        String got = told(call);
        calls++;
        if (!got.equals(String.valueOf(want))) {
            WRONG.add(what + " answered " + got + ", due is " + want);
        }
    }

    static void range(String what, Call call) {
        due(what, "throws.IndexOutOfBoundsException", call);
    }

    static void argument(String what, Call call) {
        due(what, "throws.IllegalArgumentException", call);
    }

    static void state(String what, Call call) {
        due(what, "throws.IllegalStateException", call);
    }

    /** The answer as a text; of an exception its own class, as a class below the due one is wrong too. */
    static String told(Call call) {
        try {
            return String.valueOf(call.answer());
        } catch (Throwable thrown) {
            return "throws." + thrown.getClass().getSimpleName();
        }
    }

    static void failed(String what) {
        WRONG.add(what);
    }

    static void end() {
        for (int i = 0; i < WRONG.size() && i < 50; i++) {
            System.out.println(WRONG.get(i));
        }
        System.out.println(WRONG.isEmpty()
                ? calls + " answers are as due"
                : WRONG.size() + " of " + calls + " answers are not as due");
        if (!WRONG.isEmpty()) {
            System.exit(1);
        }
    }
}
