import java.io.IOException;
import java.io.UncheckedIOException;
import java.nio.file.Files;
import java.nio.file.Path;
import java.util.LinkedHashSet;
import java.util.Set;

/**
 * Runs tests that are each named by the sentence of the document that they test, word for word. Which sentences of a
 * part of the document have no test, and which tests have no sentence, is told at the end and counts as failed.
 */
final class Sentences {
    private static final Path DOCUMENT = Path.of("../shared/DOC.md");
    private static final int MOST_LINES = 5;
    /** No line begins so. */
    private static final String END = "\n";

    private static final Set<String> tested = new LinkedHashSet<>();
    private static String heading = "";
    private static String sentence = "";
    private static int wrong;
    private static int passed;
    private static int failed;

    private Sentences() {
    }

    /** The heading in the document under which the next sentences stand. */
    static void under(String words) {
        heading = words;
    }

    static void test(String words, Runnable test) {
        sentence = heading + ": " + words;
        wrong = 0;
        if (!tested.add(sentence)) {
            tell("is tested twice");
        }
        try {
            test.run();
        } catch (RuntimeException | StackOverflowError thrown) {
            tell("a call threw " + thrown);
        }
        count();
    }

    static void due(String call, int got, int want) {
        if (got != want) {
            tell(call + " answered " + got + ", due is " + want);
        }
    }

    /** Each sentence from the line that begins with the first words to the one that begins with the last has a test. */
    static void complete(String first, String last) {
        Set<String> without = sentences(first, last);
        without.removeAll(tested);
        for (String words : without) {
            fault(words, "has no test");
        }
    }

    static void close() {
        Set<String> unknown = new LinkedHashSet<>(tested);
        unknown.removeAll(sentences("#", END));
        for (String words : unknown) {
            fault(words, "does not stand in the document");
        }
        System.out.println(passed + " passed, " + failed + " failed");
        if (failed > 0) {
            System.exit(1);
        }
    }

    private static void fault(String words, String fault) {
        sentence = words;
        wrong = 0;
        tell(fault);
        count();
    }

    private static void tell(String fault) {
        wrong++;
        if (wrong <= MOST_LINES) {
            System.out.println(sentence + "\n    " + fault);
        }
    }

    private static void count() {
        if (wrong == 0) {
            passed++;
        } else {
            failed++;
        }
    }

    private static Set<String> sentences(String first, String last) {
        Set<String> found = new LinkedHashSet<>();
        String under = "";
        boolean inside = false;
        for (String line : document().split("\n")) {
            inside = !line.startsWith(last) && (inside || line.startsWith(first));
            if (line.startsWith("#")) {
                under = line.replaceFirst("#+ ", "");
            } else if (inside && !line.isBlank() && !line.startsWith("`") && !line.startsWith("---")) {
                for (String words : line.replaceFirst("^- ", "").split(endOfSentence(line))) {
                    found.add(under + ": " + words.trim().replaceAll(" +", " "));
                }
            }
        }
        return found;
    }

    /** What a call returns is told in one sentence, case by case; each case is tested by itself. */
    private static String endOfSentence(String line) {
        return line.startsWith("Returns") ? "; " : "(?<=\\.|\\.\\)) +(?=[A-Z(])";
    }

    private static String document() {
        try {
            return Files.readString(DOCUMENT);
        } catch (IOException unread) {
            throw new UncheckedIOException(unread);
        }
    }
}
