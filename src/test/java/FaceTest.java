import java.io.IOException;
import java.lang.reflect.Constructor;
import java.lang.reflect.Field;
import java.lang.reflect.Member;
import java.lang.reflect.Method;
import java.lang.reflect.Modifier;
import java.nio.file.Files;
import java.nio.file.Path;
import java.util.ArrayList;
import java.util.List;
import java.util.Set;
import java.util.TreeSet;
import java.util.regex.Matcher;
import java.util.regex.Pattern;

// The public face, as the document writes it out.
public final class FaceTest {
    private static final Path SOURCE = Path.of("src/main/java/PlaFolder.java");

    private static void same(String what, Set<String> got, List<String> want) {
        Set<String> due = new TreeSet<>(want);
        if (!got.equals(due)) {
            Due.fault(what + ": " + got + ", due is " + due);
        }
    }

    private static String signature(Method m) {
        List<String> types = new ArrayList<>();
        for (Class<?> type : m.getParameterTypes()) {
            types.add(type.getSimpleName());
        }
        return m.getReturnType().getSimpleName() + " " + m.getName() + "(" + String.join(", ", types) + ")";
    }

    /** Rule 1: a member is private or it is one of the document's. */
    private static boolean inFace(Member m) {
        if (m.isSynthetic() || Modifier.isPrivate(m.getModifiers())) {
            return false;
        }
        if (!Modifier.isPublic(m.getModifiers())) {
            Due.fault(m + " is neither public nor private");
        }
        return true;
    }

    private static void constants() throws IllegalAccessException {
        Set<String> found = new TreeSet<>();
        for (Field f : PlaFolder.class.getDeclaredFields()) {
            if (inFace(f)) {
                found.add(f.getName() + " = " + f.getInt(null));
            }
            if (Modifier.isStatic(f.getModifiers()) && !Modifier.isFinal(f.getModifiers())) {
                Due.fault(f + " is static and not final");
            }
        }
        same("constants", found, Face.constants());
    }

    private static void methods() {
        Set<String> found = new TreeSet<>();
        Set<String> names = new TreeSet<>();
        for (Method m : PlaFolder.class.getDeclaredMethods()) {
            if (inFace(m)) {
                found.add(signature(m));
                names.add(m.getName());
            }
        }
        same("methods", found, Face.methods());
        noPrivateTwin(PlaFolder.class, names);
        for (Class<?> inside : PlaFolder.class.getDeclaredClasses()) {
            noPrivateTwin(inside, names);
        }
    }

    private static void noPrivateTwin(Class<?> where, Set<String> names) {
        for (Method m : where.getDeclaredMethods()) {
            if (Modifier.isPrivate(m.getModifiers()) && names.contains(m.getName())) {
                Due.fault(m + " bears a public name");
            }
        }
    }

    private static void classes() {
        if (!Modifier.isFinal(PlaFolder.class.getModifiers()) || !Modifier.isPublic(PlaFolder.class.getModifiers())) {
            Due.fault("the class is not public and final");
        }
        Constructor<?>[] constructors = PlaFolder.class.getDeclaredConstructors();
        if (constructors.length != 1 || !inFace(constructors[0]) || constructors[0].getParameterCount() != 0) {
            Due.fault("the constructor is not the document's");
        }
        for (Class<?> inside : PlaFolder.class.getDeclaredClasses()) {
            if (!Modifier.isStatic(inside.getModifiers()) || Modifier.isPublic(inside.getModifiers())) {
                Due.fault(inside + " is not static, or it is public");
            }
        }
    }

    /** The declarations of the document with its names of the parameters, each once in the source. */
    private static void declarations() throws IOException {
        List<String> source = new ArrayList<>();
        Matcher m = Pattern.compile("(?m)^ *(public [^{;]+?) ?[{;]$").matcher(Files.readString(SOURCE));
        while (m.find()) {
            source.add(m.group(1));
        }
        List<String> document = new ArrayList<>(Face.declarations());
        document.add(0, "public final class PlaFolder");
        if (!source.equals(document)) {
            Due.fault("declarations: " + source + ", due is " + document);
        }
    }

    public static void main(String[] args) throws IllegalAccessException, IOException {
        constants();
        methods();
        classes();
        declarations();
        Due.finish();
    }
}
