import java.io.IOException;
import java.lang.reflect.Method;
import java.nio.file.Files;
import java.nio.file.Path;
import java.util.ArrayList;
import java.util.List;

/**
 * The tests of single sentences against the document: each quotes words that stand there under its
 * promise, and all that the document says of answers, from its terms on, is quoted by some test.
 */
public final class QuotesTest {
    private static final Path DOCUMENT = Path.of("../shared/DOC.md");
    private static final int PROMISES = 33;
    private static final Class<?>[] TESTS = {TermsEdgesTest.class, TextEdgesTest.class, PrimerEdgesTest.class, SignsEdgesTest.class,
        LessonsEdgesTest.class, PupilsEdgesTest.class};
    /** What names or orders things, and asks for no answer. */
    private static final String[] NO_CASES = {
        "Words in capitals are told where they come first.", "All numbers are whole.",
        "======== 1", "======== 2", "======== 3", "======== 4", "```text", "```"};
    private static final Due due = new Due("QuotesTest");

    public static void main(String[] args) throws IOException {
        List<String> parts = parts(Files.readString(DOCUMENT));
        due.is("promises of the document", parts.size() - 1, PROMISES);
        for (int promise = 0; promise < parts.size(); promise++) {
            compare(promise, parts.get(promise));
        }
        due.end();
    }

    /** The opening part, then the promises. */
    private static List<String> parts(String document) {
        List<String> parts = new ArrayList<>();
        for (String part : document.substring(0, document.indexOf("## Not promised")).split("## Promise \\d+: ")) {
            parts.add(plain(part));
        }
        return parts;
    }

    private static String plain(String text) {
        return text.replaceAll("\\s+", " ").trim();
    }

    private static void compare(int promise, String part) {
        StringBuilder unquoted = new StringBuilder(part);
        int tests = 0;
        for (Class<?> test : TESTS) {
            for (Method m : Edges.of(test)) {
                Says says = m.getAnnotation(Says.class);
                if (says.promise() != promise) {
                    continue;
                }
                tests++;
                for (String words : says.words()) {
                    due.holds("promise " + promise + " says '" + words + "' (" + m.getName() + ")", part.contains(plain(words)));
                    blank(unquoted, part, plain(words));
                }
            }
        }
        due.holds("promise " + promise + " has tests of its sentences", tests > 0);
        for (String words : NO_CASES) {
            blank(unquoted, part, words);
        }
        String left = unquoted.substring(beginOfAnswers(promise, part), endOfAnswers(promise, part));
        due.is("promise " + promise + ": letters and figures that no test quotes, in '" + plain(left) + "'",
            left.replaceAll("[^A-Za-z0-9]", "").length(), 0);
    }

    private static void blank(StringBuilder unquoted, String part, String words) {
        for (int at = part.indexOf(words); at >= 0; at = part.indexOf(words, at + 1)) {
            unquoted.replace(at, at + words.length(), " ".repeat(words.length()));
        }
    }

    /** A promise's answers stand behind its call, those of the opening part behind the heading of its terms. */
    private static int beginOfAnswers(int promise, String part) {
        String ahead = promise == 0 ? "## Terms" : ")`:";
        return part.indexOf(ahead) + ahead.length();
    }

    private static int endOfAnswers(int promise, String part) {
        return promise == 0 ? part.indexOf("Ahead of the calls `feed`") : part.length();
    }
}
