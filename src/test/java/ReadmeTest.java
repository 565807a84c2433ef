import java.io.IOException;
import java.lang.reflect.Method;
import java.nio.file.Files;
import java.nio.file.Path;
import java.util.Set;
import java.util.TreeSet;
import java.util.regex.Matcher;
import java.util.regex.Pattern;
import java.util.stream.Stream;

/** README.md against the document and the program: each call with its refusals, the example's answers, each test. */
public final class ReadmeTest {
    private static final Path DOCUMENT = Path.of("../shared/DOC.md");
    private static final Path TESTS = Path.of("src/test/java");
    private static final Pattern PROMISE = Pattern.compile("(?m)^`((?:int|long) \\w+\\([^)]*\\))`: (.*)$");
    private static final Pattern ROW = Pattern.compile("(?m)^\\| `((?:int|long) \\w+\\([^)]*\\))` \\| (.+) \\| (.*)\\|$");
    private static final Pattern REFUSAL = Pattern.compile("\\b(UNKNOWN|OUTSIDE|NOT|FULL)\\b");
    private static final Pattern FED = Pattern.compile("(?m)^feed\\(x, \"([^\"]*)\"\\);$");
    private static final Pattern ASKED = Pattern.compile("(?m)^x\\.(\\w+)\\(([^)]*)\\); +// (-?\\d+)\\b");
    private static final Due due = new Due("ReadmeTest");

    public static void main(String[] args) throws Exception {
        String readme = Files.readString(Path.of("README.md"));
        eachCallIsTold(readme, Files.readString(DOCUMENT));
        theExampleAnswersSo(readme);
        eachTestIsTold(readme);
        due.end();
    }

    private static void eachCallIsTold(String readme, String document) {
        Set<String> told = new TreeSet<>();
        Set<String> asked = new TreeSet<>();
        for (Matcher row = ROW.matcher(readme); row.find();) {
            due.holds("README tells once " + row.group(1), told.add(row.group(1) + " refuses " + refusals(row.group(3))));
        }
        for (Matcher promise = PROMISE.matcher(document); promise.find();) {
            asked.add(promise.group(1) + " refuses " + refusals(promise.group(2)));
        }
        due.is("calls of the document", asked.size(), 32);
        due.holds("README tells the document's calls and refusals: " + told + ", due: " + asked, told.equals(asked));
    }

    private static Set<String> refusals(String words) {
        Set<String> refusals = new TreeSet<>();
        for (Matcher m = REFUSAL.matcher(words); m.find();) {
            refusals.add(m.group());
        }
        return refusals;
    }

    private static void theExampleAnswersSo(String readme) throws Exception {
        Matcher fed = FED.matcher(readme);
        due.holds("README feeds a text", fed.find());
        FirstReader x = new FirstReader();
        Due.feed(x, fed.group(1));
        int calls = 0;
        for (Matcher call = ASKED.matcher(readme); call.find(); calls++) {
            due.is("README: " + call.group(), answer(x, call.group(1), call.group(2)), Long.parseLong(call.group(3)));
        }
        due.holds("README makes calls", calls > 5);
    }

    private static long answer(FirstReader x, String name, String numbers) throws Exception {
        Object[] given = numbers.isEmpty() ? new Object[0] : Stream.of(numbers.split(", ")).map(Integer::valueOf).toArray();
        for (Method m : FirstReader.class.getMethods()) {
            if (m.getName().equals(name) && m.getDeclaringClass() == FirstReader.class) {
                return ((Number) m.invoke(x, given)).longValue();
            }
        }
        return Long.MIN_VALUE;
    }

    private static void eachTestIsTold(String readme) throws IOException {
        try (Stream<Path> files = Files.list(TESTS)) {
            for (Path file : (Iterable<Path>) files.sorted()::iterator) {
                String name = file.getFileName().toString().replace(".java", "");
                due.holds("README tells of " + name, !name.endsWith("Test") || readme.contains("`" + name + "`"));
            }
        }
    }
}
