import java.io.IOException;
import java.lang.reflect.Constructor;
import java.lang.reflect.Field;
import java.lang.reflect.Member;
import java.lang.reflect.Method;
import java.lang.reflect.Modifier;
import java.nio.file.Files;
import java.nio.file.Path;
import java.util.ArrayList;
import java.util.List;
import java.util.Set;
import java.util.TreeSet;
import java.util.regex.Matcher;
import java.util.regex.Pattern;

// The public face of the document, and the rules of LANGUAGE.md that can be read off the class or its text.
public final class FaceTest {
    private static final Path SOURCE = Path.of("src/main/java/PlaFolder.java");

    private static final List<String> CONSTANTS = List.of("OUT_OF_RANGE = -2", "NOT_POSSIBLE = -3",
        "CYCLE = -4", "FULL = -5", "NOTHING_SAVED = -6", "NONE = -1");

    private static final List<String> METHODS = List.of("int setSize(int, int)", "int addTerm(int, int, int)",
        "int removeTerm(int)", "int terms()", "int literals(int)", "int evaluate(int)", "int onCount(int)",
        "int isRedundant(int)", "int removeRedundant()", "int uses(int)", "int canFold(int, int)",
        "int fold(int, int)", "int unfold(int)", "int partner(int)", "int folds()", "int termAt(int)",
        "int rowOf(int)", "int mustPrecede(int, int)", "int area()", "int span(int)", "int bestUpper(int)",
        "int bestLower(int)", "int foldBest()", "int undo()", "int errorCount(int)", "long digest()");

    private static void same(String what, Set<String> got, List<String> want) {
        Set<String> due = new TreeSet<>(want);
        if (!got.equals(due)) {
            Due.fault(what + ": " + got + ", due is " + due);
        }
    }

    private static String signature(Method m) {
        List<String> types = new ArrayList<>();
        for (Class<?> type : m.getParameterTypes()) {
            types.add(type.getSimpleName());
        }
        return m.getReturnType().getSimpleName() + " " + m.getName() + "(" + String.join(", ", types) + ")";
    }

    /** Rule 1: a member is private or it is one of the document's. */
    private static boolean inFace(Member m) {
        if (m.isSynthetic() || Modifier.isPrivate(m.getModifiers())) {
            return false;
        }
        if (!Modifier.isPublic(m.getModifiers())) {
            Due.fault(m + " is neither public nor private");
        }
        return true;
    }

    private static void constants() throws IllegalAccessException {
        Set<String> found = new TreeSet<>();
        for (Field f : PlaFolder.class.getDeclaredFields()) {
            if (inFace(f)) {
                found.add(f.getName() + " = " + f.getInt(null));
            }
            if (Modifier.isStatic(f.getModifiers()) && !Modifier.isFinal(f.getModifiers())) {
                Due.fault(f + " is static and not final");
            }
        }
        same("constants", found, CONSTANTS);
    }

    private static void methods() {
        Set<String> found = new TreeSet<>();
        Set<String> names = new TreeSet<>();
        for (Method m : PlaFolder.class.getDeclaredMethods()) {
            if (inFace(m)) {
                found.add(signature(m));
                names.add(m.getName());
            }
        }
        same("methods", found, METHODS);
        noPrivateTwin(PlaFolder.class, names);
        for (Class<?> inside : PlaFolder.class.getDeclaredClasses()) {
            noPrivateTwin(inside, names);
        }
    }

    private static void noPrivateTwin(Class<?> where, Set<String> names) {
        for (Method m : where.getDeclaredMethods()) {
            if (Modifier.isPrivate(m.getModifiers()) && names.contains(m.getName())) {
                Due.fault(m + " bears a public name");
            }
            if (m.getParameterCount() > 7) {
                Due.fault(m + " takes too many parameters");
            }
        }
    }

    private static void classes() {
        if (!Modifier.isFinal(PlaFolder.class.getModifiers()) || !Modifier.isPublic(PlaFolder.class.getModifiers())) {
            Due.fault("the class is not public and final");
        }
        Constructor<?>[] constructors = PlaFolder.class.getDeclaredConstructors();
        if (constructors.length != 1 || !inFace(constructors[0]) || constructors[0].getParameterCount() != 0) {
            Due.fault("the constructor is not the document's");
        }
        for (Class<?> inside : PlaFolder.class.getDeclaredClasses()) {
            if (!Modifier.isStatic(inside.getModifiers()) || Modifier.isPublic(inside.getModifiers())) {
                Due.fault(inside + " is not static, or it is public");
            }
        }
    }

    private static void text() throws IOException {
        String code = Files.readString(SOURCE).replaceAll("(?s)/\\*.*?\\*/", " ").replaceAll("//[^\n]*", " ");
        Pattern barred = Pattern.compile("\\b(throws?|try|catch|finally|synchronized|assert|package|native|volatile"
            + "|transient|Object|System\\.(?!arraycopy)\\w+|\\w+Exact|equals|hashCode|toString)\\b|->|::");
        Matcher m = barred.matcher(code);
        while (m.find()) {
            Due.fault("LANGUAGE.md bars '" + m.group() + "'");
        }
        Matcher imports = Pattern.compile("import\\s+([^;]+);").matcher(code);
        while (imports.find()) {
            if (!List.of("java.util.Arrays", "java.util.ArrayList", "java.util.List").contains(imports.group(1))) {
                Due.fault("LANGUAGE.md does not list " + imports.group(1));
            }
        }
    }

    public static void main(String[] args) throws IllegalAccessException, IOException {
        constants();
        methods();
        classes();
        text();
        Due.finish();
    }
}
