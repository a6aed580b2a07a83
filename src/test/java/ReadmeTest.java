import java.io.IOException;
import java.lang.reflect.InvocationTargetException;
import java.lang.reflect.Method;
import java.lang.reflect.Modifier;
import java.nio.file.Files;
import java.nio.file.Path;
import java.util.ArrayList;
import java.util.HashMap;
import java.util.List;
import java.util.Map;
import java.util.regex.Matcher;
import java.util.regex.Pattern;

/**
 * README.md tells of each call, with its exceptions in their order, and its example answers
 * as it says. Runs from the project's directory, as .ci/run does.
 */
public final class ReadmeTest {
    private static final Pattern ROW = Pattern.compile("\\| `(\\w+)\\((.*?)\\)` \\|.*\\|(.*)\\|");
    private static final Pattern THROWN = Pattern.compile("`(index|argument|state)`");
    private static final Pattern CALLED = Pattern.compile("\\bgrove\\.");
    private static final Pattern EXAMPLE =
            Pattern.compile(" {4}(?:\\w+ (\\w+) = )?grove\\.(\\w+)\\((.*)\\); +// (.+)");
    private static final Pattern ARGUMENT = Pattern.compile("packed\\(\"(.*)\"\\)|[\\w.]+");
    private static final Map<String, String> SHORT_NAMES = Map.of("IndexOutOfBoundsException", "index",
            "IllegalArgumentException", "argument", "IllegalStateException", "state");

    private final Map<String, Object> known = new HashMap<>();
    private Quasigrove grove = new Quasigrove();
    private int examples = 0;

    public static void main(String[] args) throws IOException {
        Check.begin();
        List<String> lines = Files.readAllLines(Path.of("README.md"));
        lookAtTables(lines);
        new ReadmeTest().lookAtExamples(lines);
        Check.end();
    }

    // ---- the tables

    private static void lookAtTables(List<String> lines) {
        Map<String, List<String>> told = new HashMap<>();
        for (String line : lines) {
            Matcher row = ROW.matcher(line);
            if (row.matches()) {
                int arguments = row.group(2).isEmpty() ? 0 : row.group(2).split(", ").length;
                told.computeIfAbsent(row.group(1), name -> new ArrayList<>())
                        .add(arguments + " " + thrownIn(row.group(3)));
            }
        }
        for (Method method : Quasigrove.class.getDeclaredMethods()) {
            if (Modifier.isPublic(method.getModifiers())) {
                Check.due("README of " + method.getName(), List.of(method.getParameterCount() + " " + thrownBy(method)),
                        () -> told.get(method.getName()));
            }
        }
        Check.due("calls in README", 32, told::size);
    }

    private static List<String> thrownIn(String column) {
        List<String> names = new ArrayList<>();
        Matcher thrown = THROWN.matcher(column);
        while (thrown.find()) {
            names.add(thrown.group(1));
        }
        return names;
    }

    private static List<String> thrownBy(Method method) {
        List<String> names = new ArrayList<>();
        for (Class<?> thrown : method.getExceptionTypes()) {
            names.add(SHORT_NAMES.get(thrown.getSimpleName()));
        }
        return names;
    }

    // ---- the example

    private void lookAtExamples(List<String> lines) {
        for (String line : lines) {
            if (line.equals("    Quasigrove grove = new Quasigrove();")) {
                grove = new Quasigrove();
            } else if (line.startsWith("    ") && CALLED.matcher(line).find()) {
                lookAt(line);
            }
        }
        Check.due("README has examples", true, () -> examples > 0);
    }

    private void lookAt(String line) {
        Matcher example = EXAMPLE.matcher(line);
        if (!example.matches()) {
            Check.failed("README has a line that is no example: " + line);
            return;
        }
        examples++;
        Object answer = answered(example.group(2), arguments(example.group(3)));
        if (example.group(1) != null) {
            known.put(example.group(1), answer);
        }
        Check.due("README:" + line.stripTrailing(), example.group(4).strip(), () -> answer);
    }

    private Object[] arguments(String text) {
        List<Object> values = new ArrayList<>();
        Matcher argument = ARGUMENT.matcher(text);
        while (argument.find()) {
            values.add(argument.group(1) == null ? valueOf(argument.group()) : Groves.packed(argument.group(1)));
        }
        return values.toArray();
    }

    private Object valueOf(String text) {
        if (text.equals("Quasigrove.NONE")) {
            return Quasigrove.NONE;
        }
        return known.containsKey(text) ? known.get(text) : Integer.valueOf(text);
    }

    private Object answered(String name, Object[] arguments) {
        for (Method method : Quasigrove.class.getMethods()) {
            if (method.getName().equals(name) && method.getParameterCount() == arguments.length) {
                try {
                    return method.invoke(grove, arguments);
                } catch (InvocationTargetException e) {
                    return "throws " + e.getCause().getClass().getSimpleName();
                } catch (IllegalAccessException e) {
                    return "could not be called: " + e;
                }
            }
        }
        return "there is no such call";
    }
}
