import java.io.IOException;
import java.nio.file.DirectoryStream;
import java.nio.file.Files;
import java.nio.file.Path;
import java.util.regex.Matcher;
import java.util.regex.Pattern;

/**
 * Every sentence of every promise is held by some test: its words stand behind a Due.sentence(..) of a test's source.
 * Arguments: the document, and the directory of the tests.
 */
public final class SentencesTest {
    private static final Pattern HELD = Pattern.compile("Due\\.sentence\\(\"[^\"]*\",((?:[\\s+]*\"[^\"]*\")+)\\)");
    private static final Pattern WORDS = Pattern.compile("\"([^\"]*)\"");
    /** How some promises begin, before they say anything. */
    private static final Pattern OPENING = Pattern.compile("^(Of an index|Of the latest answer|How many):");

    public static void main(String[] args) throws IOException {
        if (args.length > 1) {
            String document = oneLine(Files.readString(Path.of(args[0])));
            boolean[] held = new boolean[document.length()];
            markHeld(document, held, Path.of(args[1]));
            for (int promise = 1; promise <= 24; promise++) {
                look(document, held, promise);
            }
        }
        Due.end();
    }

    private static String oneLine(String text) {
        return text.replaceAll("\\s+", " ");
    }

    private static void markHeld(String document, boolean[] held, Path tests) throws IOException {
        try (DirectoryStream<Path> files = Files.newDirectoryStream(tests, "*.java")) {
            for (Path file : files) {
                Matcher quote = HELD.matcher(Files.readString(file));
                while (quote.find()) {
                    StringBuilder words = new StringBuilder();
                    Matcher part = WORDS.matcher(quote.group(1));
                    while (part.find()) {
                        words.append(part.group(1));
                    }
                    mark(document, held, words.toString());
                }
            }
        }
    }

    private static void mark(String document, boolean[] held, String words) {
        int at = document.indexOf(words);
        Due.is("the document says \"" + words + "\"", at >= 0 ? 1 : 0, 1);
        for (int k = 0; k < words.length() && at >= 0; k++) {
            held[at + k] = true;
        }
    }

    private static void look(String document, boolean[] held, int promise) {
        int from = document.indexOf("## Promise " + promise + ":");
        int start = document.indexOf("`: ", from) + 3;
        int end = document.indexOf(" ## ", start);
        StringBuilder missing = new StringBuilder();
        for (int k = start; k < end; k++) {
            missing.append(held[k] ? '_' : document.charAt(k));
        }
        String rest = OPENING.matcher(missing).replaceFirst("").replaceAll("[_ .,;:]+", " ").trim();
        Due.is("promise " + promise + " says more than tests hold: \"" + rest + "\", letters", rest.length(), 0);
    }
}
