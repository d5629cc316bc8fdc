import java.io.IOException;
import java.nio.file.Files;
import java.nio.file.Path;

/** The document of the promises, so that no test can hold against the class what it does not say. */
final class Document {
    private static final Path PLACE = Path.of("../shared/DOC.md");
    private static final String TEXT = read();

    private Document() {
    }

    /** Whether a sentence stands in the document's general parts or in what it says of one promise. */
    static boolean says(int promise, String sentence) {
        String general = TEXT.substring(0, TEXT.indexOf("## Promise 1:"));
        return general.contains(plain(sentence)) || own(promise).contains(plain(sentence));
    }

    /** The terms and all promises. */
    static String promised() {
        return TEXT.substring(TEXT.indexOf("## Terms"), TEXT.indexOf("## Not promised"));
    }

    /** Whether a place of what is promised lies in the terms or in one promise. */
    static boolean isOf(int promise, int place) {
        String text = promised();
        int from = text.indexOf(heading(promise));
        boolean inTerms = place < text.indexOf(heading(1));
        return inTerms || from >= 0 && place >= from && place < from + own(promise).length();
    }

    static String plain(String text) {
        return text.replaceAll("\\s+", " ").trim();
    }

    private static String heading(int promise) {
        return "## Promise " + promise + ":";
    }

    private static String own(int promise) {
        int from = TEXT.indexOf(heading(promise));
        return from < 0 ? "" : TEXT.substring(from, TEXT.indexOf("## ", from + heading(promise).length()));
    }

    private static String read() {
        try {
            return plain(Files.readString(PLACE));
        } catch (IOException e) {
            throw new IllegalStateException("the document is not at " + PLACE.toAbsolutePath(), e);
        }
    }
}
