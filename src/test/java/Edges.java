import java.io.IOException;
import java.io.UncheckedIOException;
import java.nio.file.Files;
import java.nio.file.Path;
import java.util.ArrayList;
import java.util.HashSet;
import java.util.List;
import java.util.Set;

/**
 * Ties each test of an edge to the document's sentence that names the edge, and finds the sentences that have none.
 * So a sentence that the document words anew, or a new one, shows as a fault here.
 */
final class Edges {
    /** Stands for all that is said ahead of the first promise. */
    static final int TERMS = 0;

    private static final Path DOCUMENT = Path.of("../shared/DOC.md");
    private static final String PROMISE = "## Promise ";
    private static final String TERMS_BEGIN = "## Terms";
    /** These lines just say which calls belong together. */
    private static final String NO_TERMS = "Ahead of the calls ";

    /** Section k is that of promise k. */
    private final List<List<String>> sections = new ArrayList<>();
    private final Set<String> tested = new HashSet<>();
    private final List<String> quotedTerms = new ArrayList<>();

    Edges() {
        sections.add(new ArrayList<>());
        try {
            for (String line : Files.readAllLines(DOCUMENT)) {
                if (line.startsWith(PROMISE + sections.size() + ":")) {
                    sections.add(new ArrayList<>());
                }
                sections.get(sections.size() - 1).add(line);
            }
        } catch (IOException unread) {
            throw new UncheckedIOException(unread);
        }
    }

    void test(int promise, String sentence, Runnable test) {
        Check.beginPart(nameOf(promise, sentence));
        if (!tested.add(nameOf(promise, sentence))) {
            Check.say("tested twice");
        }
        if (!stands(promise, sentence)) {
            Check.say("the document does not say so");
        }
        if (promise == TERMS) {
            quotedTerms.add(sentence);
        }
        long before = Check.countLooked();
        test.run();
        if (Check.countLooked() == before) {
            Check.say("the test looks at nothing");
        }
        Check.beginPart("");
    }

    /** Looks whether each line of these promises that names an edge has a test. */
    void endOf(int first, int last) {
        for (int promise = first; promise <= last; promise++) {
            Check.due("promise " + promise + " stands in the document", promise < sections.size(), true);
            if (promise >= sections.size()) {
                continue;
            }
            for (String line : sections.get(promise)) {
                if (namesEdge(line) && !tested.contains(nameOf(promise, line))) {
                    Check.say(nameOf(promise, line) + " has no test");
                }
            }
        }
    }

    /** Looks whether each sentence of the terms is told, in whole or in part, by a test. */
    void endOfTerms() {
        boolean inTerms = false;
        for (String line : sections.get(TERMS)) {
            inTerms |= line.equals(TERMS_BEGIN);
            if (!inTerms || line.startsWith(NO_TERMS)) {
                continue;
            }
            for (String sentence : line.split("(?<=[.]) ")) {
                if (sentence.endsWith(".") && !isQuoted(sentence)) {
                    Check.say("no test of the terms' " + sentence);
                }
            }
        }
        Check.due("the document has terms", inTerms, true);
    }

    private boolean isQuoted(String sentence) {
        for (String quote : quotedTerms) {
            if (sentence.contains(quote)) {
                return true;
            }
        }
        return false;
    }

    private static boolean namesEdge(String line) {
        return line.startsWith("- ") || line.startsWith("Throws ") || line.startsWith("Returns ") && line.contains(";");
    }

    private boolean stands(int promise, String sentence) {
        if (promise >= sections.size()) {
            return false;
        }
        for (String line : sections.get(promise)) {
            if (line.contains(sentence)) {
                return true;
            }
        }
        return false;
    }

    private static String nameOf(int promise, String sentence) {
        return (promise == TERMS ? "the terms" : "promise " + promise) + ", \"" + sentence + "\"";
    }
}
