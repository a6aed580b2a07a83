import java.lang.reflect.Constructor;
import java.lang.reflect.Field;
import java.lang.reflect.Method;
import java.lang.reflect.Modifier;
import java.util.ArrayList;
import java.util.Arrays;
import java.util.Collections;
import java.util.List;

/** The face of the class is that of the document, and nothing else can be seen from outside. */
public final class FaceTest {
    private static final String[] DUE = {
        "int grid(int)", "int linear(int,int,int,int)", "int put(int,int,int,int)", "int isotope(int,int,int,int)",
        "int conjugate(int,int)", "int cell(int,int,int)", "int of(int,int)", "int distance(int,int)",
        "int turn(int,int,int,int)", "int stir(int,int,int)", "int can(int,int,int)", "int fills(int,int)",
        "int fillsAnew(int,int)", "int fill(int)", "int forced(int)", "int logic(int)", "int critical(int)",
        "int type(long,int)", "int wipe()", "int fault()", "int breaks(int)", "int unit(int)", "int nucleus(int,int)",
        "int closed(int,int)", "int count(int,int)", "int isotopies(int,int)", "int transversals(int)",
        "int mates(int)", "int mate(int)", "boolean areMates(int,int)", "int parity(int,int)", "int wins(int)",
    };

    public static void main(String[] args) {
        Check.begin();
        Class<?> type = Quasigrove.class;
        Check.due("the class", "public final", () -> Modifier.toString(type.getModifiers()));
        Check.due("NONE", -1, () -> Quasigrove.NONE);
        Check.due("the methods", sorted(Arrays.asList(DUE)), () -> sorted(seenMethods(type)));
        Check.due("the fields", "[public static final NONE]", () -> seenFields(type));
        Check.due("the constructors", "[public Quasigrove()]", () -> Arrays.toString(type.getDeclaredConstructors()));
        Check.due("private methods with a public one's name", "[]", () -> sameNames(type));
        for (Class<?> inner : type.getDeclaredClasses()) {
            Check.due(inner + " is static and not public", true, () -> Modifier.isStatic(inner.getModifiers())
                    && !Modifier.isPublic(inner.getModifiers()) && !Modifier.isProtected(inner.getModifiers()));
            for (Constructor<?> made : inner.getDeclaredConstructors()) {
                Check.due(made + " takes seven at most", true, () -> made.getParameterCount() <= 7);
            }
        }
        Check.end();
    }

    private static List<String> sorted(List<String> texts) {
        List<String> copy = new ArrayList<>(texts);
        Collections.sort(copy);
        return copy;
    }

    private static List<String> seenMethods(Class<?> type) {
        List<String> seen = new ArrayList<>();
        for (Method method : type.getDeclaredMethods()) {
            if (!Modifier.isPrivate(method.getModifiers())) {
                String arguments = Arrays.toString(method.getParameterTypes()).replaceAll("[\\[\\] ]", "");
                seen.add(method.getReturnType() + " " + method.getName() + "(" + arguments + ")");
            }
        }
        return seen;
    }

    private static List<String> seenFields(Class<?> type) {
        List<String> seen = new ArrayList<>();
        for (Field field : type.getDeclaredFields()) {
            if (!Modifier.isPrivate(field.getModifiers())) {
                seen.add(Modifier.toString(field.getModifiers()) + " " + field.getName());
            }
        }
        return seen;
    }

    /** Looks into the classes inside too, so that the rule holds for them as well. */
    private static List<String> sameNames(Class<?> type) {
        List<String> face = new ArrayList<>();
        for (String due : DUE) {
            face.add(due.replaceAll(".* |\\(.*", ""));
        }
        List<Class<?>> classes = new ArrayList<>(Arrays.asList(type.getDeclaredClasses()));
        List<String> same = new ArrayList<>();
        for (Class<?> inner : classes) {
            for (Method method : inner.getDeclaredMethods()) {
                if (face.contains(method.getName())) {
                    same.add(inner.getSimpleName() + "." + method.getName());
                }
            }
        }
        for (Method method : type.getDeclaredMethods()) {
            if (Modifier.isPrivate(method.getModifiers()) && face.contains(method.getName())) {
                same.add(method.getName());
            }
        }
        return same;
    }
}
