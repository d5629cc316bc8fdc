import java.io.IOException;
import java.nio.file.DirectoryStream;
import java.nio.file.Files;
import java.nio.file.Path;
import java.util.Arrays;
import java.util.regex.Matcher;
import java.util.regex.Pattern;

/** Each sentence of the document's terms and promises has a test that names it: nothing of them is left over. */
final class DocumentTest {
    private static final Pattern NAMED = Pattern.compile("Check\\.says\\((\\d+),\\s*((?:\"[^\"]*\"\\s*\\+?\\s*)+)\\)");
    private static final Pattern WORDS = Pattern.compile("\"([^\"]*)\"");
    // Headings, signatures and what only leads on to a sentence.
    private static final Pattern FRAME = Pattern.compile("## Terms|```(text)?|==== \\d\\.|Facts:|## Promise \\d+: [^`]*"
            + "|`[^`]*`:|The TAPE is read as a RIVER:|TURN\\.");

    public static void main(String[] args) throws IOException {
        char[] left = Document.promised().toCharArray();
        Matcher named = NAMED.matcher(sources());
        while (named.find()) {
            strike(left, Integer.parseInt(named.group(1)), joined(named.group(2)));
        }
        String rest = FRAME.matcher(new String(left)).replaceAll("\0");
        for (String part : rest.split("\0+")) {
            Check.due("'" + part.trim() + "' is left over", part.matches(".*[A-Za-z0-9].*"), false);
        }
        Check.end();
    }

    private static String sources() throws IOException {
        StringBuilder text = new StringBuilder();
        try (DirectoryStream<Path> tests = Files.newDirectoryStream(Path.of("src/test/java"), "*Test.java")) {
            for (Path test : tests) {
                text.append(Files.readString(test)).append('\n');
            }
        }
        return text.toString();
    }

    private static String joined(String literals) {
        StringBuilder text = new StringBuilder();
        Matcher words = WORDS.matcher(literals);
        while (words.find()) {
            text.append(words.group(1));
        }
        return Document.plain(text.toString());
    }

    /** A sentence counts for the terms, and for the promise that its test names. */
    private static void strike(char[] left, int promise, String sentence) {
        String text = Document.promised();
        for (int from = text.indexOf(sentence); from >= 0; from = text.indexOf(sentence, from + 1)) {
            if (Document.isOf(promise, from)) {
                Arrays.fill(left, from, from + sentence.length(), '\0');
            }
        }
    }
}
