import java.util.ArrayList;
import java.util.List;
import java.util.Random;

/** All promises: runs of calls by lot (always the same lots), each answer against the model's. */
public final class ModelTest {
    private static final int RUNS = 1500;
    private static final int CALLS = 512;
    private static final Due due = new Due("ModelTest");

    private final Random lot;
    private final FirstReader x = new FirstReader();
    private final Model m = new Model();
    private final StringBuilder told = new StringBuilder();
    private int calls;
    private int signs;
    private int words;
    private int lessons;
    private int pages;

    private ModelTest(long seed) {
        lot = new Random(seed);
    }

    public static void main(String[] args) {
        for (int run = 0; run < RUNS; run++) {
            new ModelTest(run).run();
        }
        due.end();
    }

    private void run() {
        while (calls < CALLS) {
            if (calls == 0 || lot.nextInt(60) == 0) {
                int kind = lot.nextInt(8);
                String text = kind == 0 ? crowdedText() : kind == 1 ? sightText() : ordinaryText();
                feed(lot.nextInt(3) == 0 ? spoil(text) : text);
                same("primer()", x.primer(), m.primer());
                same("fault()", x.fault(), m.fault());
                signs = m.count(0);
                words = m.count(1);
                lessons = m.count(2);
                pages = m.count(3);
            }
            call();
        }
    }

    private void same(String call, long got, long want) {
        calls++;
        due.is(call + " behind " + told, got, want);
    }

    private void feed(String text) {
        told.setLength(0);
        told.append(text);
        for (int at = 0; at < text.length();) {
            int n = Math.min(lot.nextInt(4) == 0 ? 1 + lot.nextInt(8) : 8, text.length() - at);
            long bytes = lot.nextLong();
            for (int i = 0; i < n; i++) {
                bytes = bytes << 8 | text.charAt(at + i);
            }
            same("feed(" + n + ", " + bytes + ")", x.feed(n, bytes), m.feed(n, bytes));
            at += n;
        }
    }

    // ---- texts

    private String letters(int most, int alphabet) {
        StringBuilder letters = new StringBuilder();
        for (int i = 1 + lot.nextInt(most); i > 0; i--) {
            letters.append((char) ('a' + lot.nextInt(alphabet)));
        }
        return letters.toString();
    }

    private String list(int bound) {
        List<String> numbers = new ArrayList<>();
        for (int n = 0; n < bound; n++) {
            if (lot.nextInt(3) == 0) {
                numbers.add(lot.nextInt(numbers.size() + 1), (n < 10 && lot.nextInt(9) == 0 ? "0" : "") + n);
            }
        }
        return String.join(lot.nextInt(5) == 0 ? " , " : ",", numbers);
    }

    private String ordinaryText() {
        int alphabet = 2 + lot.nextInt(2);
        int soundCount = 2 + lot.nextInt(3);
        List<String> signLetters = new ArrayList<>();
        List<Integer> signSounds = new ArrayList<>();
        List<String> wordLetters = new ArrayList<>();
        StringBuilder text = new StringBuilder();
        int lessonCount = 0;
        for (int i = 3 + lot.nextInt(5); i > 0; i--) {
            String letters = letters(3, alphabet);
            int sound = lot.nextInt(5) == 0 ? -1 : lot.nextInt(soundCount);
            signLetters.add(letters);
            signSounds.add(sound);
            text.append("sign ").append(letters).append(sound < 0 ? " -" : " " + sound)
                .append(new String[] {"", "", "", " start", "end"}[lot.nextInt(5)]).append(';');
        }
        for (int i = 2 + lot.nextInt(7); i > 0; i--) {
            StringBuilder letters = new StringBuilder();
            StringBuilder sounds = new StringBuilder();
            boolean bySigns = lot.nextInt(4) > 0;
            for (int j = 1 + lot.nextInt(4); j > 0; j--) {
                int k = lot.nextInt(signLetters.size());
                letters.append(bySigns ? signLetters.get(k) : letters(1, alphabet));
                sounds.append(bySigns && signSounds.get(k) < 0 ? "" : " " + (bySigns ? signSounds.get(k) : lot.nextInt(soundCount)));
            }
            if (letters.length() > 6 || sounds.length() == 0 || wordLetters.contains(letters.toString())) {
                continue;
            }
            wordLetters.add(letters.toString());
            text.append("word ").append(letters).append(sounds).append(';');
        }
        int lessonMost = lot.nextInt(6);
        int pageMost = lot.nextInt(6);
        for (int i = 0; i < lessonMost; i++) {
            String[] lists = {lot.nextInt(2) == 0 ? "" : list(lessonCount), list(signLetters.size()),
                lot.nextInt(2) == 0 ? "" : list(wordLetters.size())};
            text.append("lesson").append(lists[0].isEmpty() ? "" : " after " + lists[0])
                .append(lists[1].isEmpty() ? "" : " signs" + lists[1]).append(lists[2].isEmpty() ? "" : " sight " + lists[2]).append(" ;");
            lessonCount++;
        }
        for (int i = 0; i < pageMost && !wordLetters.isEmpty(); i++) {
            text.append("page");
            for (int j = 1 + lot.nextInt(6); j > 0; j--) {
                text.append(' ').append(wordLetters.get(lot.nextInt(wordLetters.size())));
            }
            text.append(';');
        }
        return cutToSize(text.toString());
    }

    /** Clauses up to their bounds and beyond them, rows up to theirs. */
    private String crowdedText() {
        StringBuilder text = new StringBuilder();
        int kind = lot.nextInt(4);
        int wordCount = kind == 1 ? 23 + lot.nextInt(3) : 2;
        for (int i = 0; i < wordCount; i++) {
            text.append("word ").append((char) ('a' + i)).append(lot.nextInt(30)).append(';');
        }
        for (int i = kind == 0 ? 19 + lot.nextInt(3) : lot.nextInt(3); i > 0; i--) {
            text.append("sign ").append(letters(4, 5)).append(lot.nextInt(31)).append(';');
        }
        for (int i = kind == 2 ? 6 + lot.nextInt(3) : 1; i > 0; i--) {
            text.append("lesson;");
        }
        for (int i = kind == 3 ? 7 + lot.nextInt(3) : 1; i > 0; i--) {
            text.append("page").append(" a".repeat(i == 1 ? 14 + lot.nextInt(4) : 1)).append(';');
        }
        text.append("word ").append("abcdefghij", 0, 7 + lot.nextInt(3)).append(" 7".repeat(7 + lot.nextInt(3))).append(';');
        return cutToSize(text.toString());
    }

    /** Words by sight alone, on pages that lead to one another: long courses. */
    private String sightText() {
        StringBuilder text = new StringBuilder();
        int wordCount = 4 + lot.nextInt(8);
        for (int i = 0; i < wordCount; i++) {
            text.append("word ").append((char) ('a' + i)).append("1;");
        }
        int lessonMost = lot.nextInt(6);
        for (int l = 0; l < lessonMost; l++) {
            text.append("lesson").append(l > 0 && lot.nextInt(3) == 0 ? " after " + lot.nextInt(l) : "")
                .append(" sight ").append(lot.nextInt(wordCount)).append(';');
        }
        for (int p = 2 + lot.nextInt(5); p > 0; p--) {
            text.append("page");
            for (int i = 1 + lot.nextInt(5); i > 0; i--) {
                text.append(' ').append((char) ('a' + lot.nextInt(wordCount)));
            }
            text.append(';');
        }
        return text.toString();
    }

    private static String cutToSize(String text) {
        return text.length() <= 600 ? text : text.substring(0, text.lastIndexOf(';', 599) + 1);
    }

    private String spoil(String text) {
        StringBuilder spoilt = new StringBuilder(text);
        String[] bits = {" ", ";", ",", "-", "0", "1", "7", "30", "123", "a", "b", "end", "start", " after 0", " signs 0", " sight 0",
            "sign a 1;", "word a 1;", "lesson;", "page a;", "A", "\t", String.valueOf((char) 0), String.valueOf((char) 200), " q", "aaaaaaaaa"};
        for (int i = 1 + lot.nextInt(2); i > 0; i--) {
            int at = lot.nextInt(spoilt.length() + 1);
            int kind = lot.nextInt(3);
            if (kind > 0 && at < spoilt.length()) {
                spoilt.delete(at, Math.min(spoilt.length(), at + 1 + lot.nextInt(2)));
            }
            if (kind < 2) {
                spoilt.insert(at, bits[lot.nextInt(bits.length)]);
            }
        }
        return spoilt.length() <= 600 ? spoilt.toString() : spoilt.substring(0, 600);
    }

    // ---- calls

    /** Mostly a number of which there is one, now and then one beside it or far off. */
    private int of(int count) {
        int kind = lot.nextInt(24);
        return kind == 0 ? -1 : kind == 1 ? count : kind == 2 ? new int[] {Integer.MIN_VALUE, Integer.MAX_VALUE, -7, 40}[lot.nextInt(4)]
            : lot.nextInt(Math.max(1, count));
    }

    private int setOf(int count) {
        int kind = lot.nextInt(20);
        return kind == 0 ? lot.nextInt() : kind == 1 ? 1 << count : kind < 6 ? (1 << count) - 1 : lot.nextInt() & (1 << count) - 1;
    }

    private int closedSet() {
        int set = setOf(lessons);
        for (int i = 0; i < 8 && lot.nextInt(8) > 0 && m.taught(set) == Model.NOT; i++) {
            for (int l = 0; l < lessons; l++) {
                set |= (set >> l & 1) != 0 ? m.lesson(l, 0) : 0;
            }
        }
        return set;
    }

    private int unknownMost() {
        return lot.nextInt(15) == 0 ? of(17) : lot.nextInt(4);
    }

    private void call() {
        int a = 0;
        int b = 0;
        int c = 0;
        switch (lot.nextInt(34)) {
            case 0 -> same("sign " + (a = of(signs)) + " " + (b = of(7)), x.sign(a, b), m.sign(a, b));
            case 1 -> same("word " + (a = of(words)) + " " + (b = of(18)), x.word(a, b), m.word(a, b));
            case 2 -> same("lesson " + (a = of(lessons)) + " " + (b = of(3)), x.lesson(a, b), m.lesson(a, b));
            case 3 -> same("page " + (a = of(pages)) + " " + (b = of(6) - lot.nextInt(2)), x.page(a, b), m.page(a, b));
            case 4 -> same("count " + (a = of(6)), x.count(a), m.count(a));
            case 5 -> same("fits " + (a = of(signs)) + " " + (b = of(words)) + " " + (c = of(5)), x.fits(a, b, c), m.fits(a, b, c));
            case 6 -> same("ways " + (a = of(words)) + " " + (b = setOf(signs)), x.ways(a, b), m.ways(a, b));
            case 7 -> same("cut " + (a = of(words)) + " " + (b = setOf(signs)) + " " + (c = of(5) - lot.nextInt(2)), x.cut(a, b, c), m.cut(a, b, c));
            case 8 -> same("aloud " + (a = of(words)) + " " + (b = setOf(signs)) + " " + (c = of(5) - lot.nextInt(2)), x.aloud(a, b, c), m.aloud(a, b, c));
            case 9 -> same("right " + (a = of(words)) + " " + (b = setOf(signs)) + " " + (c = of(3)), x.right(a, b, c), m.right(a, b, c));
            case 10 -> same("spelt " + (a = of(words)) + " " + (b = setOf(signs)) + " " + (c = of(9) - lot.nextInt(2)), x.spelt(a, b, c), m.spelt(a, b, c));
            case 11 -> same("taught " + (a = closedSet()), x.taught(a), m.taught(a));
            case 12 -> same("reads " + (a = closedSet()), x.reads(a), m.reads(a));
            case 13 -> same("mixed " + (a = of(words)) + " " + (b = closedSet()), x.mixed(a, b), m.mixed(a, b));
            case 14 -> same("unknown " + (a = of(pages)) + " " + (b = closedSet()), x.unknown(a, b), m.unknown(a, b));
            case 15 -> same("fewest " + (a = of(pages)) + " " + (b = unknownMost()), x.fewest(a, b), m.fewest(a, b));
            case 16 -> {
                a = of(pages);
                b = unknownMost();
                for (int j = -1; j < 8 && (j == -1 || j <= m.count(2) + m.count(3)); j++) {
                    same("course " + a + " " + b + " " + j, x.course(a, b, j), m.course(a, b, j));
                }
            }
            case 17 -> same("hangs " + (a = of(words)), x.hangs(a), m.hangs(a));
            case 18 -> same("base " + (a = lot.nextInt(33)), x.base(a), m.base(a));
            case 19, 20, 21 -> same("take " + (a = of(3)) + " " + (b = of(lessons)), x.take(a, b), m.take(a, b));
            case 22, 23, 24 -> same("read " + (a = of(3)) + " " + (b = of(pages)), x.read(a, b), m.read(a, b));
            case 25 -> same("rest " + (a = of(3)) + " " + (b = lot.nextInt(12) == 0 ? of(1000) : 1 + lot.nextInt(5)), x.rest(a, b), m.rest(a, b));
            case 26 -> same("about " + (a = of(3)) + " " + (b = of(4)), x.about(a, b), m.about(a, b));
            case 27 -> same("span " + (a = of(3)) + " sign " + (b = of(signs)), x.span(a, false, b), m.span(a, false, b));
            case 28 -> same("span " + (a = of(3)) + " word " + (b = of(words)), x.span(a, true, b), m.span(a, true, b));
            case 29 -> same("meets " + (a = of(3)) + " " + (b = of(pages)), x.meets(a, b), m.meets(a, b));
            case 30 -> same("next " + (a = of(3)) + " " + (b = unknownMost()), x.next(a, b), m.next(a, b));
            case 31 -> same("forAll", x.forAll(), m.forAll());
            case 32 -> same("keep " + (a = of(2)), x.keep(a), m.keep(a));
            default -> same("goBack " + (a = of(2)), x.goBack(a), m.goBack(a));
        }
    }
}
