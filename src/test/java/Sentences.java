import java.io.IOException;
import java.nio.file.Files;
import java.nio.file.Path;

/**
 * Holds tests beside the document's own words: each test names its promise and
 * quotes its sentence, and no words of a promise may be left without a test.
 */
final class Sentences {
    private static final String TERMS = "## Terms";

    private final String document;
    private final boolean[] quoted;
    private int tests = 0;

    Sentences() throws IOException {
        document = Files.readString(Path.of("../shared/DOC.md"));
        quoted = new boolean[document.length()];
    }

    /** One test of a sentence: the words stand under that promise, or are ones that it uses. */
    void hold(int promise, String words, Runnable test) {
        tests++;
        Due.about("promise " + promise + ", \"" + words + "\": ");
        int from = headingOf(promise);
        boolean there = quote(words, from, sectionEnd(from));
        there |= quote(words, 0, headingOf(1));
        Due.is("the document's words", there, true);
        test.run();
        Due.about("");
    }

    /** No letter or number between these words of the Terms is without a test. */
    void closeTerms(String first, String behind) {
        int from = document.indexOf(first, document.indexOf(TERMS)) + first.length();
        lookForGaps(from, document.indexOf(behind, from));
    }

    /** Nor is one of these promises. */
    void closePromises(int first, int last) {
        for (int promise = first; promise <= last; promise++) {
            int heading = headingOf(promise);
            lookForGaps(document.indexOf("`: ", heading), sectionEnd(heading));
        }
    }

    void close(String name) {
        System.out.println(name + ": " + tests + " tests of sentences");
        Due.close(name);
    }

    private int headingOf(int promise) {
        return document.indexOf("## Promise " + promise + ":");
    }

    private int sectionEnd(int heading) {
        return document.indexOf("\n## ", heading);
    }

    private boolean quote(String words, int from, int to) {
        boolean there = false;
        int at = document.indexOf(words, from);
        while (at >= 0 && at + words.length() <= to) {
            there = true;
            java.util.Arrays.fill(quoted, at, at + words.length(), true);
            at = document.indexOf(words, at + 1);
        }
        return there;
    }

    private void lookForGaps(int from, int to) {
        Due.is("the document has that part", from >= 0 && to > from, true);
        StringBuilder gap = new StringBuilder();
        for (int k = from; k <= to; k++) {
            if (k < to && !quoted[k]) {
                gap.append(document.charAt(k));
            } else if (gap.length() > 0) {
                if (gap.toString().replace("```text", "").matches("(?s).*[A-Za-z0-9].*")) {
                    Due.is("words without a test: <" + gap + ">", false, true);
                }
                gap.setLength(0);
            }
        }
    }
}
