import java.io.IOException;
import java.io.UncheckedIOException;
import java.nio.file.Files;
import java.nio.file.Path;

/** The document, where it is there to be read, so that no test quotes what it does not say. */
final class Document {
    private static final Path PLACE = Path.of("../shared/DOC.md");

    private Document() {
    }

    /** The heading is told as far as its colon: "Promise 1", "Terms". */
    static boolean lacks(String heading, String words) {
        if (!Files.isReadable(PLACE)) {
            return false;
        }
        for (String part : read().split("\n## ")) {
            boolean isIt = part.startsWith(heading + "\n") || part.startsWith(heading + ":");
            if (isIt && part.contains(words)) {
                return false;
            }
        }
        return true;
    }

    private static String read() {
        try {
            return Files.readString(PLACE);
        } catch (IOException e) {
            throw new UncheckedIOException(e);
        }
    }
}
