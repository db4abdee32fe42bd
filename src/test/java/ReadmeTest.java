import java.io.IOException;
import java.lang.reflect.Method;
import java.nio.file.Files;
import java.nio.file.Path;
import java.util.ArrayList;
import java.util.List;
import java.util.regex.Matcher;
import java.util.regex.Pattern;
import java.util.stream.Stream;

// What README.md says of the class: its runs of calls are made, and its tables compared with the document.
public final class ReadmeTest {
    private static final Path README = Path.of("README.md");
    private static final Path TESTS = Path.of("src/test/java");
    private static final String MAKING = "PlaFolder pla = new PlaFolder();";
    private static final Pattern CALL = Pattern.compile("pla\\.(\\w+)\\(([-\\d, ]*)\\); +// (-?\\d+): .*");
    private static final Pattern CODE = Pattern.compile("OUT_OF_RANGE|NOT_POSSIBLE|CYCLE|FULL|NOTHING_SAVED");

    private static void runs(List<String> lines) throws ReflectiveOperationException {
        PlaFolder x = null;
        int made = 0;
        for (String line : lines) {
            Matcher m = CALL.matcher(line);
            if (line.equals(MAKING)) {
                x = new PlaFolder();
                made++;
            } else if (m.matches()) {
                Due.is("run " + made + ": " + m.group(1) + "(" + m.group(2) + ")",
                    answer(x, m.group(1), m.group(2)), Long.parseLong(m.group(3)));
            } else if (line.startsWith("pla.")) {
                Due.fault("no answer is told: " + line);
            }
        }
        Due.is("runs", made, 2);
    }

    private static long answer(PlaFolder x, String name, String words) throws ReflectiveOperationException {
        List<Object> arguments = new ArrayList<>();
        for (String word : words.isEmpty() ? new String[0] : words.split(", ")) {
            arguments.add(Integer.parseInt(word));
        }
        for (Method m : PlaFolder.class.getMethods()) {
            if (m.getName().equals(name) && m.getParameterCount() == arguments.size()) {
                return ((Number) m.invoke(x, arguments.toArray())).longValue();
            }
        }
        throw new NoSuchMethodException(name + "(" + words + ")");
    }

    /** The rows of a table whose first head is given, without the head's two lines. */
    private static List<String[]> table(List<String> lines, String head) {
        List<String[]> rows = new ArrayList<>();
        boolean inside = false;
        for (String line : lines) {
            inside = line.startsWith("|") && (inside || line.startsWith("| " + head + " |"));
            if (inside) {
                rows.add(line.substring(2, line.length() - 1).split(" ?\\| ?", -1));
            }
        }
        return rows.subList(Math.min(2, rows.size()), rows.size());
    }

    private static void calls(List<String[]> rows) {
        List<String> listed = new ArrayList<>();
        for (String[] row : rows) {
            listed.add(row[0].replace("`", ""));
        }
        same("calls", listed, Face.calls());
        for (int i = 0; i < rows.size(); i++) {
            String promise = Sentence.under("Promise " + (i + 2));
            String call = listed.get(i);
            if (!promise.contains(": " + call.substring(0, call.indexOf('(')) + "\n")) {
                Due.fault("promise " + (i + 2) + " is not that of " + call);
            }
            same("errors of " + call, List.of(rows.get(i)[3].trim()), List.of(errors(promise)));
            same("undo of " + call, List.of(rows.get(i)[4].trim()), List.of(promise.contains("Undoable.") ? "yes" : ""));
        }
    }

    /** The codes that a promise tells, in its order, each once. */
    private static String errors(String promise) {
        List<String> codes = new ArrayList<>();
        Matcher m = CODE.matcher(promise);
        while (m.find()) {
            if (!codes.contains(m.group())) {
                codes.add(m.group());
            }
        }
        return String.join(", ", codes);
    }

    private static void codes(List<String[]> rows) {
        List<String> listed = new ArrayList<>();
        for (String[] row : rows) {
            listed.add(row[0].replace("`", "") + " = " + row[1]);
        }
        same("codes", listed, Face.constants());
    }

    private static void tests(String text) throws IOException {
        try (Stream<Path> files = Files.list(TESTS)) {
            for (Path file : files.toList()) {
                String name = file.getFileName().toString().replace(".java", "");
                if (name.endsWith("Test") && !text.contains("`" + name + "`")) {
                    Due.fault(name + " is not told of");
                }
            }
        }
    }

    private static void same(String what, List<String> got, List<String> want) {
        if (!got.equals(want)) {
            Due.fault(what + ": " + got + ", due is " + want);
        }
    }

    public static void main(String[] args) throws IOException, ReflectiveOperationException {
        Due.about("README.md");
        List<String> lines = Files.readAllLines(README);
        runs(lines);
        calls(table(lines, "Call"));
        codes(table(lines, "Code"));
        tests(String.join("\n", lines));
        Due.finish();
    }
}
