import java.io.IOException;
import java.nio.file.Files;
import java.nio.file.Path;

/**
 * Tests of single sentences: each names the words of the document that it is about,
 * and they must stand there, in the promise it names (0: all that stands ahead of
 * promise 1). So a sentence that has no test, or is told otherwise one day, is seen.
 */
final class Edges {
    private static final Path DOCUMENT = Path.of("../shared/DOC.md");
    private static final String HEADING = "## Promise ";

    final Check check = new Check();
    private final String[] parts;
    private final boolean[] tested;

    Edges() {
        parts = read().split(HEADING);
        tested = new boolean[parts.length];
    }

    private static String read() {
        try {
            return inOneLine(Files.readString(DOCUMENT));
        } catch (IOException e) {
            throw new IllegalStateException("the document can't be read", e);
        }
    }

    private static String inOneLine(String text) {
        return text.replaceAll("\\s+", " ");
    }

    void edge(int promise, String words, Runnable test) {
        check.about("promise " + promise + ", \"" + words + "\"");
        boolean stands = promise >= 0 && promise < parts.length && parts[promise].contains(inOneLine(words));
        check.due("these words stand in the document", stands, true);
        int before = check.asked();
        try {
            test.run();
        } catch (RuntimeException e) {
            check.fault("the test ended by " + e);
        }
        check.due("something is asked", check.asked() > before, true);
        if (stands) {
            tested[promise] = true;
        }
    }

    /** Each promise from the first to the last must have had a test. */
    void close(int first, int last) {
        for (int promise = first; promise <= last; promise++) {
            check.about("promise " + promise);
            check.due("has a test", promise < tested.length && tested[promise], true);
        }
        check.close();
    }
}
