import java.io.IOException;
import java.lang.reflect.Field;
import java.lang.reflect.Method;
import java.lang.reflect.Modifier;
import java.nio.file.Files;
import java.nio.file.Path;
import java.util.ArrayList;
import java.util.List;
import java.util.Map;
import java.util.Set;
import java.util.TreeMap;
import java.util.TreeSet;
import java.util.regex.Matcher;
import java.util.regex.Pattern;

// Rules of LANGUAGE.md that can be read off the class or its text.
public final class LanguageTest {
    private static final Path SOURCE = Path.of("src/main/java/PlaFolder.java");
    private static final Pattern HEAD = Pattern.compile(
        "(?m)^ +(?:public|private) (?:static )?[\\w\\[\\]]+ (\\w+)\\([^)]*\\) \\{$");

    /** For each method its name and the text of its body; methods of one name are taken as one. */
    private static Map<String, String> bodies(String code) {
        Map<String, String> found = new TreeMap<>();
        Matcher m = HEAD.matcher(code);
        while (m.find()) {
            String body = code.substring(m.end(), endOfBody(code, m.end()));
            atMost("rule 11, lines of " + m.group(1), body.split("\n").length + 1, 60);
            found.merge(m.group(1), body, String::concat);
        }
        return found;
    }

    private static int endOfBody(String code, int start) {
        int open = 1;
        int i = start;
        while (open > 0) {
            char sign = code.charAt(i);
            open += sign == '{' ? 1 : sign == '}' ? -1 : 0;
            i++;
        }
        return i;
    }

    private static Map<String, Set<String>> calls(Map<String, String> bodies) {
        Map<String, Set<String>> found = new TreeMap<>();
        for (String name : bodies.keySet()) {
            Set<String> called = new TreeSet<>();
            Matcher m = Pattern.compile("(\\w+)\\(").matcher(bodies.get(name));
            while (m.find()) {
                if (bodies.containsKey(m.group(1))) {
                    called.add(m.group(1));
                }
            }
            found.put(name, called);
        }
        return found;
    }

    /** The longest chain of calls that goes on from an open one and enters no method twice. */
    private static List<String> longest(Map<String, Set<String>> calls, List<String> open) {
        List<String> best = open;
        for (String next : calls.get(open.get(open.size() - 1))) {
            if (!open.contains(next)) {
                List<String> more = new ArrayList<>(open);
                more.add(next);
                List<String> chain = longest(calls, more);
                best = chain.size() > best.size() ? chain : best;
            }
        }
        return best;
    }

    private static void depth(String code) {
        Map<String, Set<String>> calls = calls(bodies(code));
        for (Method m : PlaFolder.class.getDeclaredMethods()) {
            if (Modifier.isPublic(m.getModifiers())) {
                List<String> chain = longest(calls, List.of(m.getName()));
                atMost("rule 11, the depth of " + chain, chain.size(), 8);
            }
        }
    }

    private static void sizes() {
        List<Class<?>> classes = new ArrayList<>(List.of(PlaFolder.class.getDeclaredClasses()));
        classes.add(PlaFolder.class);
        atMost("rule 11, classes", classes.size(), 12);
        for (Class<?> where : classes) {
            int fields = 0;
            for (Field f : where.getDeclaredFields()) {
                fields += Modifier.isStatic(f.getModifiers()) ? 0 : 1;
            }
            atMost("rule 11, fields of " + where, fields, 20);
            for (Method m : where.getDeclaredMethods()) {
                atMost("rule 11, parameters of " + m, m.getParameterCount(), 7);
            }
        }
    }

    private static void words(String code) {
        Pattern barred = Pattern.compile("\\b(throws?|try|catch|finally|synchronized|assert|package|native|volatile"
            + "|transient|Object|System\\.(?!arraycopy)\\w+|\\w+Exact|equals|hashCode|toString)\\b|->|::");
        Matcher m = barred.matcher(code);
        while (m.find()) {
            Due.fault("LANGUAGE.md bars '" + m.group() + "'");
        }
        Matcher imports = Pattern.compile("import\\s+([^;]+);").matcher(code);
        while (imports.find()) {
            if (!List.of("java.util.Arrays", "java.util.ArrayList", "java.util.List").contains(imports.group(1))) {
                Due.fault("LANGUAGE.md does not list " + imports.group(1));
            }
        }
    }

    private static void atMost(String what, int got, int most) {
        if (got > most) {
            Due.fault(what + ": " + got + ", at most " + most + " is due");
        }
    }

    public static void main(String[] args) throws IOException {
        String code = Files.readString(SOURCE).replaceAll("(?s)/\\*.*?\\*/", " ").replaceAll("//[^\n]*", " ");
        words(code);
        depth(code);
        sizes();
        Due.finish();
    }
}
