import java.io.IOException;
import java.nio.charset.StandardCharsets;
import java.nio.file.Files;
import java.nio.file.Path;

/** The words of the document, so that a test can tell that it is about a sentence that does not stand there. */
final class Document {
    private static final Path FILE = Path.of("..", "shared", "DOC.md");
    private static String words;

    private Document() {
    }

    /** Whether the document says that; where it is not at hand, nothing can be told against it. */
    static boolean says(String sentence) {
        if (words == null) {
            words = read();
        }
        return words.isEmpty() || words.contains(plain(sentence));
    }

    private static String read() {
        if (!Files.isReadable(FILE)) {
            return "";
        }
        try {
            return plain(Files.readString(FILE, StandardCharsets.UTF_8));
        } catch (IOException e) {
            return "";
        }
    }

    private static String plain(String text) {
        return text.replace("`", "").replaceAll("\\s+", " ").trim();
    }
}
