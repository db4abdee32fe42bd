import java.io.IOException;
import java.io.UncheckedIOException;
import java.nio.file.Files;
import java.nio.file.Path;

// A test of one sentence of the document. The words must stand in the document
// under their head, so that no test is left for words that are not there.
final class Sentence {
    private static final Path DOCUMENT = Path.of("../shared/DOC.md");

    private Sentence() {
    }

    static void holds(String head, String words, Runnable test) {
        Due.about(head + ", '" + words + "'");
        if (!under(head).contains(words)) {
            Due.fault("the document does not say so there");
        }
        int before = Due.asked();
        test.run();
        if (Due.asked() == before) {
            Due.fault("nothing was tested");
        }
        Due.about("");
    }

    /** The text under a head with its own line, or the paragraph that begins with the head. */
    static String under(String head) {
        String text = "\n" + document() + "\n## ";
        int start = Math.max(text.indexOf("\n## " + head + ":"), text.indexOf("\n## " + head + "\n"));
        String end = "\n## ";
        if (start < 0) {
            start = text.indexOf("\n" + head + ". ");
            end = "\n\n";
        }
        if (start < 0) {
            return "";
        }
        return text.substring(start, text.indexOf(end, start + 1));
    }

    private static String document() {
        try {
            return Files.readString(DOCUMENT);
        } catch (IOException e) {
            throw new UncheckedIOException(e);
        }
    }
}
