import java.io.IOException;
import java.nio.file.Files;
import java.nio.file.Path;
import java.nio.file.Paths;

/** Runs one test for one sentence of the document, and prints the sentence with how many answers were asked for. */
final class Sentences {
    private static final Path DOCUMENT = Paths.get("../shared/DOC.md");
    private static final String WORDS = wordsOf(DOCUMENT);

    private Sentences() {
    }

    private static String wordsOf(Path file) {
        try {
            return Files.exists(file) ? inOneLine(new String(Files.readAllBytes(file), "UTF-8")) : "";
        } catch (IOException unread) {
            return "";
        }
    }

    private static String inOneLine(String text) {
        return text.replaceAll("\\s+", " ");
    }

    /** The words are the document's own, so that a test can't stand for a sentence that isn't there. */
    static void holds(String words, Runnable test) {
        if (!WORDS.isEmpty()) {
            Check.due("the document says '" + words + "'", WORDS.contains(inOneLine(words)), true);
        }
        int ahead = Check.answers();
        test.run();
        int asked = Check.answers() - ahead;
        Check.due("something is asked for '" + words + "'", asked > 0, true);
        System.out.println("  " + asked + " answers: " + words);
    }
}
