import java.lang.reflect.Constructor;
import java.lang.reflect.InvocationTargetException;
import java.lang.reflect.Method;

/** One test of one sentence: it begins with a new grove. An object is used for at most 512 calls. */
abstract class Scene {
    static final int[] ORDERS = {2, 3, 4, 5};
    /** For each order a square, at the order's own place. */
    static final String[][] SQUARES = {null, null, {"10", "01"}, {"120", "012", "201"},
        {"0123", "1032", "2301", "3210"}, {"01234", "10342", "23401", "34120", "42013"}};

    Quasigrove g = new Quasigrove();
    private String test = "";
    private int checks = 0;

    /** Runs each method that bears a sentence on a scene of its own. */
    static void runAll(Class<? extends Scene> tests) {
        Check.begin();
        int ran = 0;
        for (Method method : tests.getDeclaredMethods()) {
            Sentence sentence = method.getAnnotation(Sentence.class);
            if (sentence != null) {
                run(tests, method, sentence.value());
                ran++;
            }
        }
        System.out.println(ran + " sentences");
        if (ran == 0) {
            Check.failed("no test was found in " + tests);
        }
        Check.end();
    }

    private static void run(Class<? extends Scene> tests, Method method, String sentence) {
        String test = sentence + " [" + method.getName() + "]";
        try {
            Constructor<? extends Scene> maker = tests.getDeclaredConstructor();
            maker.setAccessible(true);
            method.setAccessible(true);
            Scene scene = maker.newInstance();
            scene.test = test;
            method.invoke(scene);
            if (scene.checks == 0) {
                Check.failed(test + " looked at nothing");
            }
        } catch (InvocationTargetException e) {
            Check.failed(test + " ended with " + e.getCause() + " at " + e.getCause().getStackTrace()[0]);
        } catch (ReflectiveOperationException e) {
            Check.failed(test + " could not run: " + e);
        }
    }

    private String next(String what) {
        checks++;
        return test + " " + what + " (look " + checks + ")";
    }

    void fresh() {
        g = new Quasigrove();
    }

    void due(Object want, Check.Call call) {
        Check.due(next(""), want, call);
    }

    void due(String what, Object want, Check.Call call) {
        Check.due(next(what), want, call);
    }

    void range(Check.Call call) {
        Check.range(next(""), call);
    }

    void range(String what, Check.Call call) {
        Check.range(next(what), call);
    }

    void argument(Check.Call call) {
        Check.argument(next(""), call);
    }

    void argument(String what, Check.Call call) {
        Check.argument(next(what), call);
    }

    void state(Check.Call call) {
        Check.state(next(""), call);
    }

    void state(String what, Check.Call call) {
        Check.state(next(what), call);
    }

    int made(String... rows) {
        return Groves.made(g, rows);
    }

    /** Makes a grid of a text as shown gives it. */
    int madeOf(String text) {
        return Groves.made(g, text.split("/"));
    }

    String shown(int grid) {
        return Groves.shown(g, grid);
    }

    void type(String text) {
        Groves.type(g, text);
    }

    /** A grid of the order without a sign, as shown gives it. */
    static String blank(int order) {
        return "/" .concat(".".repeat(order)).repeat(order).substring(1);
    }
}
