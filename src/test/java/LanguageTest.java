import java.lang.reflect.Constructor;
import java.lang.reflect.Field;
import java.lang.reflect.Method;
import java.lang.reflect.Modifier;
import java.nio.file.Files;
import java.nio.file.Path;
import java.util.ArrayList;
import java.util.List;
import java.util.Set;
import java.util.TreeSet;
import java.util.regex.Matcher;
import java.util.regex.Pattern;
import java.util.stream.Collectors;
import java.util.stream.Stream;

/** The face of the document, and those rules of LANGUAGE.md that can be seen in the source or in the class. */
public final class LanguageTest {
    private static final Due due = new Due("LanguageTest");
    private static final Path SOURCE = Path.of("src/main/java/FirstReader.java");
    private static final String[] FACE = {
        "int feed(int, long)", "int primer()", "int fault()", "int sign(int, int)", "int word(int, int)", "int lesson(int, int)",
        "int page(int, int)", "int count(int)", "int fits(int, int, int)", "long ways(int, int)", "int cut(int, int, int)",
        "int aloud(int, int, int)", "int right(int, int, int)", "int spelt(int, int, int)", "int taught(int)", "int reads(int)",
        "int mixed(int, int)", "int unknown(int, int)", "int fewest(int, int)", "int course(int, int, int)", "int hangs(int)",
        "int base(int)", "int take(int, int)", "int read(int, int)", "int rest(int, int)", "int about(int, int)",
        "int span(int, boolean, int)", "int meets(int, int)", "int next(int, int)", "int forAll()", "int keep(int)", "int goBack(int)"};

    public static void main(String[] args) throws Exception {
        theFaceIsTheDocuments();
        noOtherMemberIsSeen();
        noPrivateMethodBearsAPublicName();
        staticFieldsAreConstants();
        classesAreFewAndStatic();
        String code = withoutComments(Files.readString(SOURCE));
        noForbiddenWord(code);
        onlyTheListedLibrary(code);
        methodsAreShort(code);
        due.end();
    }

    private static String told(Method m) {
        return m.getReturnType() + " " + m.getName()
            + Stream.of(m.getParameterTypes()).map(Class::getName).collect(Collectors.joining(", ", "(", ")"));
    }

    private static void theFaceIsTheDocuments() throws Exception {
        Class<?> c = FirstReader.class;
        due.holds("public final", Modifier.isPublic(c.getModifiers()) && Modifier.isFinal(c.getModifiers()));
        Set<String> have = new TreeSet<>();
        for (Method m : c.getDeclaredMethods()) {
            if (Modifier.isPublic(m.getModifiers()) && !Modifier.isStatic(m.getModifiers())) {
                have.add(told(m));
            }
        }
        due.holds("the methods of the document: " + have, have.equals(new TreeSet<>(List.of(FACE))));
        String[] names = {"NONE", "UNKNOWN", "OUTSIDE", "NOT", "FULL"};
        int[] values = {-1, -1001, -1002, -1003, -1004};
        for (int i = 0; i < names.length; i++) {
            Field f = c.getDeclaredField(names[i]);
            int wanted = Modifier.PUBLIC | Modifier.STATIC | Modifier.FINAL;
            due.is(names[i], f.getInt(null), values[i]);
            due.holds(names[i] + " is a public constant", (f.getModifiers() & wanted) == wanted && f.getType() == int.class);
        }
    }

    private static void noOtherMemberIsSeen() {
        int seen = 0;
        for (Method m : FirstReader.class.getDeclaredMethods()) {
            seen += Modifier.isPrivate(m.getModifiers()) || m.isSynthetic() ? 0 : 1;
        }
        for (Field f : FirstReader.class.getDeclaredFields()) {
            seen += Modifier.isPrivate(f.getModifiers()) || f.isSynthetic() ? 0 : 1;
        }
        for (Constructor<?> k : FirstReader.class.getDeclaredConstructors()) {
            seen += Modifier.isPrivate(k.getModifiers()) || k.isSynthetic() ? 0 : 1;
        }
        due.is("members that are seen", seen, FACE.length + 5 + 1);
    }

    private static List<Class<?>> classes() {
        List<Class<?>> all = new ArrayList<>(List.of(FirstReader.class));
        all.addAll(List.of(FirstReader.class.getDeclaredClasses()));
        return all;
    }

    private static void noPrivateMethodBearsAPublicName() {
        Set<String> names = new TreeSet<>();
        for (String method : FACE) {
            names.add(method.replaceAll(".* (\\w+)\\(.*", "$1"));
        }
        for (Class<?> c : classes()) {
            for (Method m : c.getDeclaredMethods()) {
                due.holds(c + " " + m.getName(), Modifier.isPublic(m.getModifiers()) || !names.contains(m.getName()));
                due.holds(m.getName() + " has seven parameters at most", m.getParameterCount() <= 7);
            }
        }
    }

    private static void staticFieldsAreConstants() {
        Set<Class<?>> types = Set.of(int.class, long.class, boolean.class, char.class, String.class, int[].class, long[].class,
            char[].class, byte[].class);
        for (Class<?> c : classes()) {
            int own = 0;
            for (Field f : c.getDeclaredFields()) {
                boolean isStatic = Modifier.isStatic(f.getModifiers());
                own += isStatic ? 0 : 1;
                due.holds(c + " " + f.getName(), !isStatic || Modifier.isFinal(f.getModifiers()) && types.contains(f.getType()));
            }
            due.holds(c + " has some twenty fields at most", own <= 20);
        }
    }

    private static void classesAreFewAndStatic() {
        due.holds("some twelve classes at most", classes().size() <= 12);
        for (Class<?> c : FirstReader.class.getDeclaredClasses()) {
            int modifiers = c.getModifiers();
            due.holds(c + " is static and not public", Modifier.isStatic(modifiers) && !Modifier.isPublic(modifiers)
                && !Modifier.isProtected(modifiers));
            due.is(c + " has no classes inside", c.getDeclaredClasses().length, 0);
        }
    }

    private static String withoutComments(String source) {
        return source.replaceAll("(?s)/\\*.*?\\*/", "").replaceAll("//.*", "");
    }

    private static void noForbiddenWord(String code) {
        for (String word : new String[] {"throw", "throws", "try", "catch", "synchronized", "assert", "native", "volatile", "package",
            "Object", "System\\.(?!arraycopy)\\w+", "Random", "Thread", "equals", "hashCode", "toString", "\\w+Exact", "var"}) {
            due.holds("no " + word, !Pattern.compile("\\b" + word + "\\b").matcher(code).find());
        }
        due.holds("no lambda", !code.contains("->"));
        due.holds("no method reference", !code.contains("::"));
    }

    private static void onlyTheListedLibrary(String code) {
        Set<String> listed = Set.of("Arrays.fill", "Arrays.copyOf", "Arrays.copyOfRange", "Math.max", "Math.min", "Math.abs",
            "Integer.bitCount", "System.arraycopy");
        Matcher call = Pattern.compile("\\b(Arrays|Math|Integer|Long|System|Character|String)\\.\\w+").matcher(code.replaceAll("import.*", ""));
        while (call.find()) {
            due.holds(call.group() + " is listed", listed.contains(call.group()));
        }
        Matcher taken = Pattern.compile("import\\s+([^;]+);").matcher(code);
        while (taken.find()) {
            due.holds(taken.group(1) + " is listed", Set.of("java.util.Arrays", "java.util.ArrayList", "java.util.List").contains(taken.group(1)));
        }
    }

    /** A method begins at a line that ends in ') {' with a name ahead, and ends at the brace below its first letter. */
    private static void methodsAreShort(String code) {
        Pattern head = Pattern.compile("^( +)(?!(if|for|while|switch|else|do|return)\\b)[\\w\\[\\]]+[^=;]*\\) \\{$");
        String[] lines = code.split("\n");
        int methods = 0;
        for (int i = 0; i < lines.length; i++) {
            Matcher m = head.matcher(lines[i]);
            if (!m.matches()) {
                continue;
            }
            int end = i;
            while (end < lines.length && !lines[end].equals(m.group(1) + "}")) {
                end++;
            }
            methods++;
            due.holds(lines[i].trim() + " has sixty lines at most", end - i + 1 <= 60);
        }
        due.holds("methods were found", methods > FACE.length);
    }
}
