import java.lang.reflect.InvocationTargetException;
import java.lang.reflect.Method;
import java.util.Arrays;
import java.util.Random;

/**
 * Long runs of calls, answered by the class and by PlainGrove. Between them cells and
 * what they can take are asked, and in the end as much as an object's 512 calls allow.
 */
public final class PlainModelTest {
    private static final int RUNS = 400;
    private static final int MOST_CALLS = 512;
    private static final int CALLS_BEFORE_THE_END = 350;
    private static final String SQUARE_CALLS = "stir|critical|breaks|unit|nucleus|closed|count|isotopies"
            + "|transversals|mates|mate|areMates|parity";

    private final Random random;
    private final Quasigrove grove = new Quasigrove();
    private final PlainGrove plain = new PlainGrove();
    private final Method[] faceMethods;
    private final StringBuilder story = new StringBuilder();
    private int calls = 0;
    private int thrown = 0;

    private PlainModelTest(long seed, Method[] faceMethods) {
        this.random = new Random(seed);
        this.faceMethods = faceMethods;
    }

    public static void main(String[] args) {
        Check.begin();
        Method[] face = Arrays.stream(Quasigrove.class.getDeclaredMethods())
                .filter(m -> java.lang.reflect.Modifier.isPublic(m.getModifiers()))
                .sorted(java.util.Comparator.comparing(Method::getName))
                .toArray(Method[]::new);
        int thrown = 0;
        for (int run = 0; run < RUNS; run++) {
            thrown += new PlainModelTest(run, face).run(run);
        }
        System.out.println(RUNS + " runs are as in the plain model, with " + thrown + " exceptions");
    }

    private int run(int run) {
        while (calls < CALLS_BEFORE_THE_END) {
            Method method = pick();
            if (method.getName().equals("breaks") && random.nextInt(5) > 0) {
                typeIdentity(run);
            }
            step(run, method, arguments(method));
            if (random.nextInt(3) == 0) {
                compareSomeCell(run);
            }
        }
        compareStates(run);
        return thrown;
    }

    private void step(int run, Method method, Object[] args) {
        calls++;
        String want = answer(plain, method, args);
        String got = answer(grove, method, args);
        story.append(method.getName()).append(Arrays.toString(args)).append(" -> ").append(want).append('\n');
        if (!want.equals(got)) {
            fail(run, method.getName() + " answered " + got + ", due is " + want);
        }
        thrown += want.startsWith("throws.") ? 1 : 0;
    }

    /** Most identities fail at once, so some are said again in other letters, which many squares keep. */
    private void typeIdentity(int run) {
        String first = word(3);
        String second = random.nextBoolean() ? word(3) : random.nextBoolean() ? first : first.replace('y', 'x');
        String text = first + "=" + second;
        step(run, named("wipe"), new Object[0]);
        for (int i = 0; i < text.length(); i += 8) {
            String piece = text.substring(i, Math.min(text.length(), i + 8));
            step(run, named("type"), new Object[] {packed(piece), piece.length()});
        }
    }

    /** The bits beyond the text are random, as they do not matter. */
    private long packed(String text) {
        long beyond = text.length() < 8 ? random.nextLong() << 8 * text.length() : 0;
        return beyond | Groves.packed(text);
    }

    private void fail(int run, String what) {
        System.out.println(story);
        System.out.println("run " + run + ": " + what);
        System.exit(1);
    }

    private static String answer(Object object, Method method, Object[] args) {
        try {
            Method own = object.getClass().getMethod(method.getName(), method.getParameterTypes());
            return String.valueOf(own.invoke(object, args));
        } catch (InvocationTargetException e) {
            return "throws." + e.getCause().getClass().getSimpleName();
        } catch (ReflectiveOperationException e) {
            throw new IllegalStateException(e);
        }
    }

    private void compareSomeCell(int run) {
        if (plain.grids() > 0) {
            int grid = random.nextInt(plain.grids());
            int n = plain.of(grid, 0);
            compare(run, random.nextBoolean() ? "cell" : "can", grid, random.nextInt(n), random.nextInt(n));
        }
    }

    /** Begins with some grid, as there may be more cells than calls are left. */
    private void compareStates(int run) {
        compare(run, "fault");
        compare(run, "of", plain.grids(), 0);
        int first = random.nextInt(12);
        for (int i = 0; i < plain.grids(); i++) {
            int grid = (first + i) % plain.grids();
            int n = plain.of(grid, 0);
            for (int what = 0; what < 3; what++) {
                compare(run, "of", grid, what);
            }
            for (int cell = 0; cell < n * n; cell++) {
                compare(run, "cell", grid, cell / n, cell % n);
                compare(run, "can", grid, cell / n, cell % n);
            }
        }
    }

    private void compare(int run, String name, Object... args) {
        if (calls < MOST_CALLS) {
            step(run, named(name), args);
        }
    }

    // ---- what is called

    private Method pick() {
        int lot = random.nextInt(100);
        if (lot < 20) {
            return named("put");
        }
        if (lot < 24 && plain.grids() < 12) {
            return named(lot < 22 ? "linear" : "grid");
        }
        if (lot < 27) {
            return named("type");
        }
        Method method = faceMethods[random.nextInt(faceMethods.length)];
        boolean makes = method.getName().matches("isotope|conjugate|mate|grid|linear");
        return makes && plain.grids() > 6 && random.nextInt(4) > 0 ? pick() : method;
    }

    private Method named(String name) {
        return Arrays.stream(faceMethods).filter(m -> m.getName().equals(name)).findFirst().orElseThrow();
    }

    private int some(int least, int most) {
        if (random.nextInt(40) == 0) {
            int[] odd = {least - 1, most + 1, Integer.MIN_VALUE, Integer.MAX_VALUE, -2};
            return odd[random.nextInt(odd.length)];
        }
        return least + random.nextInt(most - least + 1);
    }

    private int code(int n) {
        int[] map = PlainGrove.maps(n).get(random.nextInt(PlainGrove.maps(n).size()));
        int code = 0;
        for (int i = n - 1; i >= 0; i--) {
            code = 10 * code + map[i];
        }
        int lot = random.nextInt(80);
        return lot == 0 ? -code : lot == 1 ? code + 10 * n : lot == 2 ? random.nextInt(50000) : code;
    }

    /** Most calls ask for a square, so a few grids are kept from being emptied. */
    private int someGrid(Method method) {
        int grid = some(0, Math.max(0, plain.grids() - 1));
        boolean spoils = method.getName().equals("put");
        for (int i = 0; i < 6 && grid >= 0 && grid < plain.grids() && random.nextInt(8) > 0; i++) {
            boolean square = plain.of(grid, 1) == plain.of(grid, 0) * plain.of(grid, 0);
            boolean asksSquare = method.getName().matches(SQUARE_CALLS);
            if (spoils && square && grid % 3 != 0 || asksSquare && !square) {
                grid = random.nextInt(plain.grids());
            }
        }
        return grid;
    }

    private Object[] arguments(Method method) {
        int grid = someGrid(method);
        int n = grid >= 0 && grid < plain.grids() ? plain.of(grid, 0) : 3;
        int other = someGrid(method);
        int line = some(0, n - 1);
        int line2 = some(0, n - 1);
        switch (method.getName()) {
            case "grid":
                return new Object[] {some(2, 5)};
            case "linear":
                return new Object[] {some(2, 5), some(0, 4), some(0, 4), some(0, 4)};
            case "put":
                return putArguments(grid, n, line, line2);
            case "isotope":
                return new Object[] {grid, code(n), code(n), code(n)};
            case "conjugate":
                return new Object[] {grid, some(0, 5)};
            case "cell":
            case "can":
                return new Object[] {grid, line, line2};
            case "of":
            case "parity":
                return new Object[] {grid, some(0, 2)};
            case "turn":
                return new Object[] {grid, line, line2, some(0, n - 1)};
            case "stir":
                return new Object[] {grid, some(0, Integer.MAX_VALUE - 1), some(1, 50)};
            case "fills":
            case "fillsAnew":
                return new Object[] {grid, random.nextBoolean() ? some(1, 1000) : some(1, 20)};
            case "type":
                return typeArguments();
            case "nucleus":
                return new Object[] {grid, some(0, 3)};
            case "closed":
                return new Object[] {grid, some(1, (1 << n) - 1)};
            case "count":
                return new Object[] {grid, some(0, 4)};
            case "distance":
            case "isotopies":
            case "areMates":
                return new Object[] {grid, other};
            case "wipe":
            case "fault":
                return new Object[0];
            default:
                return new Object[] {grid};
        }
    }

    /** Mostly empties a cell, or puts what can be put, as any other sign would mostly be refused. */
    private Object[] putArguments(int grid, int n, int row, int column) {
        int sign = some(-1, n - 1);
        if (random.nextInt(3) == 0) {
            sign = -1;
        } else if (grid >= 0 && grid < plain.grids() && random.nextInt(4) > 0) {
            for (int i = 0; i < n && row >= 0 && row < n && column >= 0 && column < n; i++) {
                int tried = (sign + 1 + i) % n;
                if (tried >= 0 && (plain.can(grid, row, column) >> tried & 1) == 1) {
                    sign = tried;
                }
            }
        }
        return new Object[] {grid, row, column, sign};
    }

    private String word(int deep) {
        if (deep == 0 || random.nextInt(3) == 0) {
            return String.valueOf("xyz".charAt(random.nextInt(3)));
        }
        return "(" + word(deep - 1) + word(deep - 1) + ")";
    }

    /** Goes on with an identity, if the tape is the beginning of one, or types at random. */
    private Object[] typeArguments() {
        String tape = plain.tape();
        String text = tape.isEmpty() ? word(2) + "=" : tape.endsWith("=") ? word(2) : "=" + word(1);
        if (random.nextInt(5) == 0) {
            text = "";
            for (int i = 0; i < 8; i++) {
                text += "xyz()=(xxa".charAt(random.nextInt(random.nextInt(8) == 0 ? 10 : 9));
            }
        }
        int n = Math.min(8, text.length());
        return new Object[] {packed(text.substring(0, n)), random.nextInt(30) == 0 ? some(0, 9) : n};
    }
}
