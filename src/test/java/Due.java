import java.io.IOException;
import java.nio.file.Files;
import java.nio.file.Path;
import java.util.ArrayList;
import java.util.List;

/** Counts answers that are due and those that are not; a test's main ends with Due.end(). */
final class Due {
    private static int right = 0;
    private static int wrong = 0;

    private static final List<String> QUOTES = new ArrayList<>();
    private static String sentence = "";
    private static int checksBefore = 0;

    private Due() {
    }

    /** The checks from here on hold this sentence of the document, in its own words, of this promise or section. */
    static void sentence(String promise, String words) {
        endSentence();
        sentence = promise + " \"" + words + "\": ";
        QUOTES.add(words);
    }

    static void is(String call, long got, long want) {
        if (got == want) {
            right++;
            return;
        }
        wrong++;
        if (wrong <= 40) {
            System.out.println(sentence + call + " answered " + got + ", due is " + want);
        }
    }

    static void same(String what, Object got, Object want) {
        if (!got.equals(want)) {
            System.out.println(sentence + what + " is " + got + ", due is " + want);
        }
        is(what, got.equals(want) ? 1 : 0, 1);
    }

    static boolean allRight() {
        return wrong == 0;
    }

    static void end() {
        endSentence();
        System.out.println(right + " passed, " + wrong + " failed");
        if (wrong > 0) {
            System.exit(1);
        }
    }

    /** The same for a test that holds sentences: the first argument, if there is one, is the document's path. */
    static void end(String[] args) throws IOException {
        endSentence();
        if (args.length > 0) {
            String document = oneLine(Files.readString(Path.of(args[0])));
            for (String words : QUOTES) {
                is("the document says \"" + words + "\"", document.contains(oneLine(words)) ? 1 : 0, 1);
            }
        }
        System.out.println(QUOTES.size() + " sentences");
        end();
    }

    private static void endSentence() {
        if (!sentence.isEmpty()) {
            String held = sentence;
            sentence = "";
            is(held + "it is tested", right + wrong > checksBefore ? 1 : 0, 1);
        }
        checksBefore = right + wrong;
    }

    private static String oneLine(String text) {
        return text.replaceAll("\\s+", " ");
    }
}
