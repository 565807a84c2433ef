import java.util.ArrayList;
import java.util.Arrays;
import java.util.Comparator;
import java.util.HashMap;
import java.util.List;
import java.util.Map;
import java.util.Set;
import java.util.TreeSet;

/**
 * The document once more, written with the library and another way round wherever that is plainer:
 * all faults are collected and the first is chosen, all cuts are listed, courses are compared as lists.
 */
final class Model {
    static final int NONE = -1, UNKNOWN = -1001, OUTSIDE = -1002, NOT = -1003, FULL = -1004;

    record Sign(String letters, int sound, String place) { }
    record Word(String letters, List<Integer> sounds) { }
    record Lesson(Set<Integer> after, Set<Integer> signs, Set<Integer> sight) { }
    record Token(char kind, String text, int at) { }
    record Fault(int at, int kind) { }
    record Use(int span, int day) { }

    static final class Told {
        final List<Sign> signs = new ArrayList<>();
        final List<Word> words = new ArrayList<>();
        final List<Lesson> lessons = new ArrayList<>();
        final List<List<Integer>> pages = new ArrayList<>();

        int clauses() {
            return signs.size() + words.size() + lessons.size() + pages.size();
        }

        int wordOf(String letters) {
            for (int w = 0; w < words.size(); w++) {
                if (words.get(w).letters.equals(letters)) {
                    return w;
                }
            }
            return NONE;
        }
    }

    static final class Pupil {
        int day;
        Set<Integer> taken = new TreeSet<>();
        Map<Integer, Use> signs = new HashMap<>();
        Map<Integer, Use> words = new HashMap<>();

        Pupil copy() {
            Pupil c = new Pupil();
            c.day = day;
            c.taken = new TreeSet<>(taken);
            c.signs = new HashMap<>(signs);
            c.words = new HashMap<>(words);
            return c;
        }

        Set<Integer> held(Map<Integer, Use> of) {
            Set<Integer> held = new TreeSet<>();
            of.forEach((k, use) -> {
                if (day <= use.day + use.span) {
                    held.add(k);
                }
            });
            return held;
        }

        void use(Map<Integer, Use> of, Set<Integer> what, int base) {
            for (int k : what) {
                Use old = of.get(k);
                if (old == null || day > old.day + old.span) {
                    of.put(k, new Use(base, day));
                } else if (old.day < day) {
                    of.put(k, new Use(Math.min(999, old.span * 2), day));
                }
            }
        }
    }

    private StringBuilder text = new StringBuilder();
    private Told told = new Told();
    private int faultAt = NONE;
    private int base = 3;
    private Pupil[] pupils = {new Pupil(), new Pupil(), new Pupil()};
    private final Pupil[][] images = new Pupil[2][];
    private final int[] imageBases = new int[2];

    // ---- the primer

    int feed(int n, long bytes) {
        if (n < 1 || n > 8) {
            return OUTSIDE;
        }
        if (text.length() + n > 600) {
            return FULL;
        }
        for (int i = 8 - n; i < 8; i++) {
            text.append((char) (bytes << 8 * i >>> 56));
        }
        return text.length();
    }

    int primer() {
        List<Fault> faults = new ArrayList<>();
        Told fresh = tell(text.toString(), faults);
        text = new StringBuilder();
        faultAt = NONE;
        if (!faults.isEmpty()) {
            Fault first = faults.stream().min(Comparator.comparing(Fault::at).thenComparing(Fault::kind)).get();
            faultAt = first.at;
            return -10 - first.kind;
        }
        told = fresh;
        pupils = new Pupil[] {new Pupil(), new Pupil(), new Pupil()};
        Arrays.fill(images, null);
        return told.clauses();
    }

    int fault() {
        return faultAt;
    }

    private static List<Token> tokens(String text) {
        List<Token> tokens = new ArrayList<>();
        for (int at = 0; at < text.length();) {
            String rest = text.substring(at);
            String word = rest.replaceFirst("(?s)[^a-z].*", "");
            String number = rest.replaceFirst("(?s)[^0-9].*", "");
            if (!word.isEmpty()) {
                tokens.add(new Token('w', word, at));
                at += word.length();
            } else if (!number.isEmpty()) {
                tokens.add(new Token('n', number, at));
                at += number.length();
            } else {
                if (rest.charAt(0) != ' ') {
                    tokens.add(new Token('b', rest.substring(0, 1), at));
                }
                at++;
            }
        }
        tokens.add(new Token('e', "", text.length()));
        return tokens;
    }

    /** States are named by what may stand next; all faults up to the first of kind 1 are collected. */
    private static Told tell(String text, List<Fault> faults) {
        Told told = new Told();
        String state = "clause";
        String letters = "";
        int sound = NONE;
        String place = "";
        List<Integer> numbers = new ArrayList<>();
        List<List<Integer>> lists = List.of();
        for (Token t : tokens(text)) {
            boolean isWord = t.kind == 'w';
            boolean isNumber = t.kind == 'n';
            boolean isEnd = t.text.equals(";");
            switch (state) {
                case "clause" -> {
                    if (t.kind == 'e') {
                        return told;
                    }
                    letters = "";
                    place = "";
                    sound = NONE;
                    numbers = new ArrayList<>();
                    lists = List.of(new ArrayList<>(), new ArrayList<>(), new ArrayList<>());
                    int have = 0;
                    int most = 0;
                    switch (t.text) {
                        case "sign" -> { have = told.signs.size(); most = 20; state = "sign letters"; }
                        case "word" -> { have = told.words.size(); most = 24; state = "word letters"; }
                        case "lesson" -> { have = told.lessons.size(); most = 7; state = "lesson 0"; }
                        case "page" -> { have = told.pages.size(); most = 8; state = "page first"; }
                        default -> { faults.add(new Fault(t.at, 1)); return told; }
                    }
                    if (have >= most) {
                        faults.add(new Fault(t.at, 3));
                    }
                }
                case "sign letters", "word letters" -> {
                    boolean ofSign = state.startsWith("sign");
                    if (!isWord) {
                        faults.add(new Fault(t.at, 1));
                        return told;
                    }
                    letters = t.text;
                    int most = ofSign ? 4 : 8;
                    if (letters.length() > most) {
                        faults.add(new Fault(t.at + most, 4));
                    }
                    if (!ofSign && told.wordOf(letters) != NONE) {
                        faults.add(new Fault(t.at, 5));
                    }
                    state = ofSign ? "sign sound" : "word sound";
                }
                case "sign sound" -> {
                    if (isNumber) {
                        sound = value(t, 30, faults);
                    } else if (!t.text.equals("-")) {
                        faults.add(new Fault(t.at, 1));
                        return told;
                    }
                    state = "sign place";
                }
                case "sign place", "sign end" -> {
                    if (isEnd) {
                        told.signs.add(new Sign(letters, sound, place));
                        state = "clause";
                    } else if (state.equals("sign place") && (t.text.equals("start") || t.text.equals("end"))) {
                        place = t.text;
                        state = "sign end";
                    } else {
                        faults.add(new Fault(t.at, 1));
                        return told;
                    }
                }
                case "word sound", "word more" -> {
                    if (isNumber) {
                        numbers.add(value(t, 30, faults));
                        if (numbers.size() > 8) {
                            faults.add(new Fault(t.at, 4));
                        }
                        state = "word more";
                    } else if (isEnd && state.equals("word more")) {
                        told.words.add(new Word(letters, numbers));
                        state = "clause";
                    } else {
                        faults.add(new Fault(t.at, 1));
                        return told;
                    }
                }
                case "page first", "page more" -> {
                    if (isWord) {
                        int w = told.wordOf(t.text);
                        numbers.add(w);
                        if (w == NONE) {
                            faults.add(new Fault(t.at, 5));
                        }
                        if (numbers.size() > 16) {
                            faults.add(new Fault(t.at, 4));
                        }
                        state = "page more";
                    } else if (isEnd && state.equals("page more")) {
                        told.pages.add(numbers);
                        state = "clause";
                    } else {
                        faults.add(new Fault(t.at, 1));
                        return told;
                    }
                }
                default -> {
                    // "lesson n": list n or a later one may begin; "number n": a number of list n; "more n": behind one
                    int n = state.charAt(state.length() - 1) - '0';
                    int begun = List.of("after", "signs", "sight").indexOf(t.text);
                    if (state.startsWith("number")) {
                        if (!isNumber) {
                            faults.add(new Fault(t.at, 1));
                            return told;
                        }
                        int bound = n == 0 ? told.lessons.size() : n == 1 ? told.signs.size() : told.words.size();
                        int number = value(t, bound, faults);
                        if (lists.get(n).contains(number)) {
                            faults.add(new Fault(t.at, 6));
                        }
                        lists.get(n).add(number);
                        state = "more " + n;
                    } else if (state.startsWith("more") && t.text.equals(",")) {
                        state = "number " + n;
                    } else if (isEnd) {
                        told.lessons.add(new Lesson(new TreeSet<>(lists.get(0)), new TreeSet<>(lists.get(1)), new TreeSet<>(lists.get(2))));
                        state = "clause";
                    } else if (begun >= (state.startsWith("more") ? n + 1 : n)) {
                        state = "number " + begun;
                    } else {
                        faults.add(new Fault(t.at, 1));
                        return told;
                    }
                }
            }
        }
        return told;
    }

    private static int value(Token t, int bound, List<Fault> faults) {
        if (t.text.length() > 2 || Integer.parseInt(t.text) >= bound) {
            faults.add(new Fault(t.at, 2));
        }
        return t.text.length() > 8 ? 100000000 : Integer.parseInt(t.text);
    }

    int sign(int k, int what) {
        if (k < 0 || k >= told.signs.size()) {
            return UNKNOWN;
        }
        Sign s = told.signs.get(k);
        return switch (what) {
            case 0 -> s.letters.length();
            case 1 -> s.sound;
            case 2 -> List.of("", "start", "end").indexOf(s.place);
            case 3, 4, 5, 6 -> letter(s.letters, what - 3);
            default -> OUTSIDE;
        };
    }

    private static int letter(String letters, int i) {
        return i >= 0 && i < letters.length() ? letters.charAt(i) - 'a' : NONE;
    }

    private static int item(List<Integer> row, int i) {
        return i >= 0 && i < row.size() ? row.get(i) : NONE;
    }

    int word(int w, int what) {
        if (w < 0 || w >= told.words.size()) {
            return UNKNOWN;
        }
        if (what < 0 || what > 17) {
            return OUTSIDE;
        }
        Word word = told.words.get(w);
        if (what < 2) {
            return what == 0 ? word.letters.length() : word.sounds.size();
        }
        return what < 10 ? letter(word.letters, what - 2) : item(word.sounds, what - 10);
    }

    int lesson(int l, int what) {
        if (l < 0 || l >= told.lessons.size()) {
            return UNKNOWN;
        }
        Lesson lesson = told.lessons.get(l);
        return switch (what) {
            case 0 -> number(lesson.after);
            case 1 -> number(lesson.signs);
            case 2 -> number(lesson.sight);
            default -> OUTSIDE;
        };
    }

    int page(int p, int i) {
        if (p < 0 || p >= told.pages.size()) {
            return UNKNOWN;
        }
        if (i < -1 || i > 15) {
            return OUTSIDE;
        }
        return i == NONE ? number(new TreeSet<>(told.pages.get(p))) : item(told.pages.get(p), i);
    }

    int count(int what) {
        return switch (what) {
            case 0 -> told.signs.size();
            case 1 -> told.words.size();
            case 2 -> told.lessons.size();
            case 3 -> told.pages.size();
            case 4 -> text.length();
            case 5 -> base;
            default -> OUTSIDE;
        };
    }

    private static int number(Set<Integer> set) {
        int number = 0;
        for (int k : set) {
            number += 1 << k;
        }
        return number;
    }

    /** Null: there are such bits that there should not be. */
    private static Set<Integer> set(int number, int size) {
        Set<Integer> set = new TreeSet<>();
        for (int k = 0; k < 32; k++) {
            if ((number & 1 << k) != 0) {
                set.add(k);
            }
        }
        return set.stream().allMatch(k -> k < size) ? set : null;
    }

    private Set<Integer> signSet(int number) {
        return set(number, told.signs.size());
    }

    private Word wordAt(int w) {
        return w >= 0 && w < told.words.size() ? told.words.get(w) : null;
    }

    // ---- signs and words

    private boolean fits(Sign s, String letters, int i) {
        return letters.startsWith(s.letters, i) && (!s.place.equals("start") || i == 0)
            && (!s.place.equals("end") || i + s.letters.length() == letters.length());
    }

    int fits(int k, int w, int i) {
        if (k < 0 || k >= told.signs.size() || wordAt(w) == null) {
            return UNKNOWN;
        }
        String letters = wordAt(w).letters;
        if (i < 0 || i >= letters.length()) {
            return OUTSIDE;
        }
        return fits(told.signs.get(k), letters, i) ? 1 : 0;
    }

    private void cuts(Word word, Set<Integer> signs, int i, List<Integer> sounds, List<Integer> soFar, List<List<Integer>> all) {
        if (i == word.letters.length()) {
            if (sounds.equals(word.sounds)) {
                all.add(List.copyOf(soFar));
            }
            return;
        }
        for (int k : signs) {
            Sign s = told.signs.get(k);
            if (fits(s, word.letters, i)) {
                List<Integer> longer = new ArrayList<>(sounds);
                if (s.sound != NONE) {
                    longer.add(s.sound);
                }
                soFar.add(k);
                cuts(word, signs, i + s.letters.length(), longer, soFar, all);
                soFar.remove(soFar.size() - 1);
            }
        }
    }

    private List<List<Integer>> cuts(Word word, Set<Integer> signs) {
        List<List<Integer>> all = new ArrayList<>();
        cuts(word, signs, 0, List.of(), new ArrayList<>(), all);
        return all;
    }

    long ways(int w, int signs) {
        return wordAt(w) == null || signSet(signs) == null ? UNKNOWN : cuts(wordAt(w), signSet(signs)).size();
    }

    int cut(int w, int signs, int j) {
        if (wordAt(w) == null || signSet(signs) == null) {
            return UNKNOWN;
        }
        List<List<Integer>> all = cuts(wordAt(w), signSet(signs));
        if (all.isEmpty()) {
            return NONE;
        }
        List<Integer> first = all.stream().min(Model::compare).get();
        return j == NONE ? first.size() : item(first, j);
    }

    private static int compare(List<Integer> a, List<Integer> b) {
        return Arrays.compare(a.toArray(new Integer[0]), b.toArray(new Integer[0]));
    }

    /** The signs that come out; a last NONE says that it did not come to the end. */
    private List<Integer> cameOut(Word word, Set<Integer> signs) {
        List<Integer> out = new ArrayList<>();
        for (int i = 0; i < word.letters.length();) {
            int from = i;
            int best = signs.stream().filter(k -> fits(told.signs.get(k), word.letters, from))
                .max(Comparator.comparing((Integer k) -> told.signs.get(k).letters.length())
                    .thenComparing(Comparator.reverseOrder())).orElse(NONE);
            out.add(best);
            if (best == NONE) {
                break;
            }
            i += told.signs.get(best).letters.length();
        }
        return out;
    }

    private List<Integer> sounds(List<Integer> signs) {
        return signs.stream().filter(k -> k != NONE).map(k -> told.signs.get(k).sound).filter(s -> s != NONE).toList();
    }

    private boolean isRight(Word word, Set<Integer> signs) {
        List<Integer> out = cameOut(word, signs);
        return !out.contains(NONE) && sounds(out).equals(word.sounds);
    }

    int aloud(int w, int signs, int j) {
        if (wordAt(w) == null || signSet(signs) == null) {
            return UNKNOWN;
        }
        List<Integer> sounds = sounds(cameOut(wordAt(w), signSet(signs)));
        return j == NONE ? sounds.size() : item(sounds, j);
    }

    /** The letters; a '!' behind them says that it did not come to the last sound. */
    private String spelling(Word word, Set<Integer> signs) {
        String letters = "";
        for (int s = 0; s < word.sounds.size(); s++) {
            String found = null;
            for (int k : signs) {
                Sign sign = told.signs.get(k);
                boolean mayBe = sign.place.isEmpty() || (sign.place.equals("start") ? s == 0 : s == word.sounds.size() - 1);
                if (found == null && mayBe && sign.sound == word.sounds.get(s)) {
                    found = sign.letters;
                }
            }
            if (found == null) {
                return letters + "!";
            }
            letters += found;
        }
        return letters;
    }

    int right(int w, int signs, int what) {
        if (wordAt(w) == null || signSet(signs) == null) {
            return UNKNOWN;
        }
        Word word = wordAt(w);
        Set<Integer> set = signSet(signs);
        boolean is;
        if (what == 0) {
            is = isRight(word, set);
        } else if (what == 1) {
            is = spelling(word, set).equals(word.letters);
        } else if (what == 2) {
            is = !cuts(word, set).isEmpty();
        } else {
            return OUTSIDE;
        }
        return is ? 1 : 0;
    }

    int spelt(int w, int signs, int j) {
        if (wordAt(w) == null || signSet(signs) == null) {
            return UNKNOWN;
        }
        String letters = spelling(wordAt(w), signSet(signs)).replace("!", "");
        return j == NONE ? letters.length() : letter(letters, j);
    }

    // ---- lessons

    private Set<Integer> lessonSet(int number) {
        return set(number, told.lessons.size());
    }

    private boolean isClosed(Set<Integer> lessons) {
        return lessons.stream().allMatch(l -> lessons.containsAll(told.lessons.get(l).after));
    }

    private Set<Integer> signsOf(Set<Integer> lessons) {
        Set<Integer> signs = new TreeSet<>();
        lessons.forEach(l -> signs.addAll(told.lessons.get(l).signs));
        return signs;
    }

    private boolean isRead(int w, Set<Integer> lessons) {
        return lessons.stream().anyMatch(l -> told.lessons.get(l).sight.contains(w))
            || isRight(told.words.get(w), signsOf(lessons));
    }

    private int refusal(int lessons) {
        return lessonSet(lessons) == null ? UNKNOWN : isClosed(lessonSet(lessons)) ? 0 : NOT;
    }

    int taught(int lessons) {
        return refusal(lessons) != 0 ? refusal(lessons) : number(signsOf(lessonSet(lessons)));
    }

    int reads(int lessons) {
        if (refusal(lessons) != 0) {
            return refusal(lessons);
        }
        Set<Integer> read = new TreeSet<>();
        for (int w = 0; w < told.words.size(); w++) {
            if (isRead(w, lessonSet(lessons))) {
                read.add(w);
            }
        }
        return number(read);
    }

    int mixed(int w, int lessons) {
        if (wordAt(w) == null || refusal(lessons) != 0) {
            return wordAt(w) == null ? UNKNOWN : refusal(lessons);
        }
        Set<Integer> mixed = new TreeSet<>();
        List<Integer> out = cameOut(wordAt(w), signsOf(lessonSet(lessons)));
        for (int other = 0; other < told.words.size(); other++) {
            if (!isRight(wordAt(w), signsOf(lessonSet(lessons))) && !out.contains(NONE) && sounds(out).equals(wordAt(other).sounds)) {
                mixed.add(other);
            }
        }
        return number(mixed);
    }

    private boolean noPage(int p) {
        return p < 0 || p >= told.pages.size();
    }

    private Set<Integer> wordsOn(int p) {
        return new TreeSet<>(told.pages.get(p));
    }

    private int unknownOn(int p, Set<Integer> lessons) {
        return (int) wordsOn(p).stream().filter(w -> !isRead(w, lessons)).count();
    }

    int unknown(int p, int lessons) {
        return noPage(p) ? UNKNOWN : refusal(lessons) != 0 ? refusal(lessons) : unknownOn(p, lessonSet(lessons));
    }

    int fewest(int p, int u) {
        if (noPage(p)) {
            return UNKNOWN;
        }
        if (u < 0 || u > 16) {
            return OUTSIDE;
        }
        for (int size = 0; size <= told.lessons.size(); size++) {
            for (int lessons = 0; lessons < 1 << told.lessons.size(); lessons++) {
                if (lessonSet(lessons).size() == size && isClosed(lessonSet(lessons)) && unknownOn(p, lessonSet(lessons)) <= u) {
                    return lessons;
                }
            }
        }
        return NONE;
    }

    /** The best list of steps from a state on; an empty list: there is none. */
    private List<Integer> courseFrom(Set<Integer> done, int p, int u, Map<Set<Integer>, List<Integer>> found, Map<Integer, Set<Integer>> reads) {
        if (found.containsKey(done)) {
            return found.get(done);
        }
        Set<Integer> lessons = new TreeSet<>(done);
        lessons.removeIf(step -> step >= 100);
        Set<Integer> known = new TreeSet<>(reads.computeIfAbsent(number(lessons), n -> set(reads(n), 32)));
        for (int step : done) {
            if (step >= 100) {
                known.addAll(wordsOn(step - 100));
            }
        }
        List<Integer> best = List.of();
        List<Integer> steps = new ArrayList<>();
        for (int l = 0; l < told.lessons.size(); l++) {
            if (!done.contains(l) && lessons.containsAll(told.lessons.get(l).after)) {
                steps.add(l);
            }
        }
        for (int page = 0; page < told.pages.size(); page++) {
            if (!done.contains(100 + page) && wordsOn(page).stream().filter(w -> !known.contains(w)).count() <= u) {
                steps.add(100 + page);
            }
        }
        for (int step : steps) {
            List<Integer> course = new ArrayList<>(List.of(step));
            if (step != 100 + p) {
                Set<Integer> more = new TreeSet<>(done);
                more.add(step);
                List<Integer> rest = courseFrom(more, p, u, found, reads);
                if (rest.isEmpty()) {
                    continue;
                }
                course.addAll(rest);
            }
            if (best.isEmpty() || course.size() < best.size() || course.size() == best.size() && compare(course, best) < 0) {
                best = course;
            }
        }
        found.put(done, best);
        return best;
    }

    int course(int p, int u, int j) {
        if (noPage(p)) {
            return UNKNOWN;
        }
        if (u < 0 || u > 16) {
            return OUTSIDE;
        }
        List<Integer> course = courseFrom(new TreeSet<>(), p, u, new HashMap<>(), new HashMap<>());
        if (course.isEmpty()) {
            return NONE;
        }
        return j == NONE ? course.size() : item(course, j);
    }

    private boolean isBehind(int l, int first) {
        return l == first || told.lessons.get(l).after.stream().anyMatch(ahead -> isBehind(ahead, first));
    }

    int hangs(int w) {
        if (wordAt(w) == null) {
            return UNKNOWN;
        }
        Set<Integer> all = lessonSet((1 << told.lessons.size()) - 1);
        if (!isRead(w, all)) {
            return NONE;
        }
        Set<Integer> needed = new TreeSet<>();
        for (int l : all) {
            Set<Integer> left = new TreeSet<>(all);
            left.removeIf(other -> isBehind(other, l));
            if (!isRead(w, left)) {
                needed.add(l);
            }
        }
        return number(needed);
    }

    // ---- pupils

    private static boolean noPupil(int q) {
        return q < 0 || q > 2;
    }

    int base(int v) {
        if (v < 1 || v > 30) {
            return OUTSIDE;
        }
        int old = base;
        base = v;
        return old;
    }

    private int missing(Pupil pupil, int l) {
        Set<Integer> signs = new TreeSet<>(told.lessons.get(l).signs);
        signs.removeAll(pupil.held(pupil.signs));
        Set<Integer> words = new TreeSet<>(told.lessons.get(l).sight);
        words.removeAll(pupil.held(pupil.words));
        return signs.size() + words.size();
    }

    int take(int q, int l) {
        if (noPupil(q) || l < 0 || l >= told.lessons.size()) {
            return UNKNOWN;
        }
        Pupil pupil = pupils[q];
        Set<Integer> taken = new TreeSet<>(pupil.taken);
        taken.add(l);
        if (!isClosed(taken)) {
            return NOT;
        }
        int missing = missing(pupil, l);
        pupil.taken = taken;
        pupil.use(pupil.signs, told.lessons.get(l).signs, base);
        pupil.use(pupil.words, told.lessons.get(l).sight, base);
        return missing;
    }

    int read(int q, int p) {
        if (noPupil(q) || noPage(p)) {
            return UNKNOWN;
        }
        Pupil pupil = pupils[q];
        int unknown = meets(q, p);
        Set<Integer> heldSigns = pupil.held(pupil.signs);
        for (int w : wordsOn(p)) {
            if (!pupil.held(pupil.words).contains(w) && isRight(wordAt(w), heldSigns)) {
                pupil.use(pupil.signs, new TreeSet<>(cameOut(wordAt(w), heldSigns)), base);
            }
        }
        pupil.use(pupil.words, wordsOn(p), base);
        return unknown;
    }

    int rest(int q, int n) {
        if (noPupil(q)) {
            return UNKNOWN;
        }
        if (n < 1 || n > 999 || pupils[q].day > 9999 - n) {
            return OUTSIDE;
        }
        pupils[q].day += n;
        return pupils[q].day;
    }

    int about(int q, int what) {
        if (noPupil(q)) {
            return UNKNOWN;
        }
        return switch (what) {
            case 0 -> pupils[q].day;
            case 1 -> number(pupils[q].taken);
            case 2 -> number(pupils[q].held(pupils[q].signs));
            case 3 -> number(pupils[q].held(pupils[q].words));
            default -> OUTSIDE;
        };
    }

    int span(int q, boolean ofWord, int k) {
        if (noPupil(q) || k < 0 || k >= (ofWord ? told.words.size() : told.signs.size())) {
            return UNKNOWN;
        }
        Use use = (ofWord ? pupils[q].words : pupils[q].signs).get(k);
        return use == null ? 0 : use.span;
    }

    int meets(int q, int p) {
        if (noPupil(q) || noPage(p)) {
            return UNKNOWN;
        }
        Pupil pupil = pupils[q];
        return (int) wordsOn(p).stream().filter(w -> !pupil.held(pupil.words).contains(w)
            && !isRight(wordAt(w), pupil.held(pupil.signs))).count();
    }

    int next(int q, int u) {
        if (noPupil(q)) {
            return UNKNOWN;
        }
        if (u < 0 || u > 16) {
            return OUTSIDE;
        }
        for (int l : pupils[q].taken) {
            if (missing(pupils[q], l) > 0) {
                return l;
            }
        }
        for (int unknown = u; unknown >= 1; unknown--) {
            for (int p = 0; p < told.pages.size(); p++) {
                if (meets(q, p) == unknown) {
                    return 100 + p;
                }
            }
        }
        for (int l = 0; l < told.lessons.size(); l++) {
            if (!pupils[q].taken.contains(l) && pupils[q].taken.containsAll(told.lessons.get(l).after)) {
                return l;
            }
        }
        return NONE;
    }

    int forAll() {
        List<Integer> pages = new ArrayList<>();
        for (int p = 0; p < told.pages.size(); p++) {
            pages.add(p);
        }
        return pages.stream().min(Comparator.comparing(p -> meets(0, p) + meets(1, p) + meets(2, p))).orElse(NONE);
    }

    int keep(int i) {
        if (i < 0 || i > 1) {
            return UNKNOWN;
        }
        images[i] = new Pupil[] {pupils[0].copy(), pupils[1].copy(), pupils[2].copy()};
        imageBases[i] = base;
        return 1;
    }

    int goBack(int i) {
        if (i < 0 || i > 1) {
            return UNKNOWN;
        }
        if (images[i] == null) {
            return NOT;
        }
        for (int q = 0; q < 3; q++) {
            pupils[q] = images[i][q].copy();
        }
        base = imageBases[i];
        return 1;
    }
}
