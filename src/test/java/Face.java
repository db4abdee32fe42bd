import java.util.ArrayList;
import java.util.List;

// The public face that the document writes out, read from its text.
final class Face {
    private static final String CONSTANT = "public static final int ";

    private Face() {
    }

    /** Each declaration in its own words, without the semicolon, in the document's order. */
    static List<String> declarations() {
        List<String> found = new ArrayList<>();
        for (String line : Sentence.under("The public face").split("\n")) {
            String words = line.trim();
            if (words.startsWith("public ") && words.endsWith(";")) {
                found.add(words.substring(0, words.length() - 1));
            }
        }
        return found;
    }

    /** Such as "FULL = -5". */
    static List<String> constants() {
        List<String> found = new ArrayList<>();
        for (String words : declarations()) {
            if (words.startsWith(CONSTANT)) {
                found.add(words.substring(CONSTANT.length()));
            }
        }
        return found;
    }

    /** Such as "int fold(int, int)". */
    static List<String> methods() {
        List<String> found = new ArrayList<>();
        for (String words : declarations()) {
            if (words.matches("public \\w+ \\w+\\(.*\\)")) {
                found.add(words.substring("public ".length()).replaceAll("int \\w+(?=[,)])", "int"));
            }
        }
        return found;
    }

    /** Such as "fold(u, v)". */
    static List<String> calls() {
        List<String> found = new ArrayList<>();
        for (String words : declarations()) {
            if (words.matches("public \\w+ \\w+\\(.*\\)")) {
                found.add(words.replaceAll("^public \\w+ ", "").replaceAll("int (\\w+)", "$1"));
            }
        }
        return found;
    }
}
