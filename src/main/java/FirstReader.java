import java.util.Arrays;

/** A first reader: a primer of signs, words, lessons and pages, and three pupils who learn by it. */
public final class FirstReader {
    public static final int NONE = -1, UNKNOWN = -1001, OUTSIDE = -1002, NOT = -1003, FULL = -1004;

    private static final int MOST_BYTES = 600;
    private static final int MOST_BYTES_FED = 8;
    private static final int MOST_SIGNS = 20;
    private static final int MOST_SIGN_LETTERS = 4;
    private static final int MOST_WORDS = 24;
    private static final int MOST_LETTERS = 8;
    private static final int MOST_SOUNDS = 8;
    private static final int SOUNDS_IN_ALL = 30;
    private static final int MOST_LESSONS = 7;
    private static final int MOST_PAGES = 8;
    private static final int MOST_PAGE_WORDS = 16;

    private static final int ANYWHERE = 0;
    private static final int AT_START = 1;
    private static final int AT_END = 2;

    private static final int PUPILS = 3;
    private static final int IMAGES = 2;
    private static final int FIRST_BASE = 3;
    private static final int MOST_BASE = 30;
    private static final int MOST_SPAN = 999;
    private static final int MOST_REST = 999;
    private static final int LAST_DAY = 9999;
    private static final int FIRST_PAGE_STEP = 100;

    private final Parser parser = new Parser();
    private Primer told = new Primer();
    private Primer draft = new Primer();
    private final Spelling spelling = new Spelling();
    private final Cuts cuts = new Cuts();
    private final School school = new School();
    private final School[] images = {new School(), new School()};
    private int imagesKept;
    /** Null until it is asked for: its rows are by far the largest, and many objects never need them. */
    private Course shortest;

    public FirstReader() {
    }

    // ---- the primer

    public int feed(int n, long bytes) {
        if (n < 1 || n > MOST_BYTES_FED) {
            return OUTSIDE;
        }
        if (parser.length + n > MOST_BYTES) {
            return FULL;
        }
        for (int i = n - 1; i >= 0; i--) {
            parser.append((byte) (bytes >>> 8 * i));
        }
        return parser.length;
    }

    public int primer() {
        parser.parse(draft);
        if (parser.fault != 0) {
            return -10 - parser.fault;
        }
        Primer old = told;
        told = draft;
        draft = old;
        told.settle();
        school.beginAnew();
        imagesKept = 0;
        if (shortest != null) {
            shortest.forget();
        }
        return parser.clauses;
    }

    public int fault() {
        return parser.faultAt;
    }

    public int sign(int k, int what) {
        if (!isSign(k)) {
            return UNKNOWN;
        }
        if (what < 0 || what > 2 + MOST_SIGN_LETTERS) {
            return OUTSIDE;
        }
        Sign sign = told.signs[k];
        if (what == 0) {
            return sign.length;
        }
        if (what == 1) {
            return sign.sound;
        }
        return what == 2 ? sign.place : at(sign.letters, sign.length, what - 3);
    }

    public int word(int w, int what) {
        if (!isWord(w)) {
            return UNKNOWN;
        }
        if (what < 0 || what > 1 + MOST_LETTERS + MOST_SOUNDS) {
            return OUTSIDE;
        }
        Word word = told.words[w];
        if (what == 0) {
            return word.length;
        }
        if (what == 1) {
            return word.soundCount;
        }
        if (what < 2 + MOST_LETTERS) {
            return at(word.letters, word.length, what - 2);
        }
        return at(word.sounds, word.soundCount, what - 2 - MOST_LETTERS);
    }

    public int lesson(int l, int what) {
        if (!isLesson(l)) {
            return UNKNOWN;
        }
        if (what < 0 || what > 2) {
            return OUTSIDE;
        }
        if (what == 0) {
            return told.lessonAfter[l];
        }
        return what == 1 ? told.lessonSigns[l] : told.lessonSight[l];
    }

    public int page(int p, int i) {
        if (!isPage(p)) {
            return UNKNOWN;
        }
        if (i < NONE || i >= MOST_PAGE_WORDS) {
            return OUTSIDE;
        }
        return i == NONE ? told.pageSet[p] : at(told.pageWords[p], told.pageLength[p], i);
    }

    public int count(int what) {
        switch (what) {
            case 0:
                return told.signCount;
            case 1:
                return told.wordCount;
            case 2:
                return told.lessonCount;
            case 3:
                return told.pageCount;
            case 4:
                return parser.length;
            case 5:
                return school.base;
            default:
                return OUTSIDE;
        }
    }

    // ---- signs and words

    public int fits(int k, int w, int i) {
        if (!isSign(k) || !isWord(w)) {
            return UNKNOWN;
        }
        Word word = told.words[w];
        if (i < 0 || i >= word.length) {
            return OUTSIDE;
        }
        return word.fitting[i] >> k & 1;
    }

    public long ways(int w, int signs) {
        if (!isWord(w) || !areSigns(signs)) {
            return UNKNOWN;
        }
        cuts.countWays(told, told.words[w], signs);
        return cuts.inAll();
    }

    public int cut(int w, int signs, int j) {
        if (!isWord(w) || !areSigns(signs)) {
            return UNKNOWN;
        }
        cuts.countWays(told, told.words[w], signs);
        cuts.findFirst(told, told.words[w], signs);
        return j == NONE ? cuts.length : at(cuts.first, cuts.length, j);
    }

    public int aloud(int w, int signs, int j) {
        if (!isWord(w) || !areSigns(signs)) {
            return UNKNOWN;
        }
        Speech speech = told.speech;
        speech.say(told, told.words[w], signs);
        return j == NONE ? speech.count : at(speech.sounds, speech.count, j);
    }

    public int right(int w, int signs, int what) {
        if (!isWord(w) || !areSigns(signs)) {
            return UNKNOWN;
        }
        Word word = told.words[w];
        switch (what) {
            case 0:
                told.speech.say(told, word, signs);
                return bit(told.speech.isRight);
            case 1:
                spelling.spell(told, word, signs);
                return bit(spelling.isWell);
            case 2:
                cuts.countWays(told, word, signs);
                return bit(cuts.inAll() > 0);
            default:
                return OUTSIDE;
        }
    }

    public int spelt(int w, int signs, int j) {
        if (!isWord(w) || !areSigns(signs)) {
            return UNKNOWN;
        }
        spelling.spell(told, told.words[w], signs);
        return j == NONE ? spelling.count : at(spelling.letters, spelling.count, j);
    }

    // ---- lessons

    public int taught(int lessons) {
        if (!areLessons(lessons)) {
            return UNKNOWN;
        }
        return told.isClosed(lessons) ? told.signsOf(lessons) : NOT;
    }

    public int reads(int lessons) {
        if (!areLessons(lessons)) {
            return UNKNOWN;
        }
        return told.isClosed(lessons) ? told.readBy(lessons) : NOT;
    }

    public int mixed(int w, int lessons) {
        if (!isWord(w) || !areLessons(lessons)) {
            return UNKNOWN;
        }
        return told.isClosed(lessons) ? told.takenFor(told.words[w], told.signsOf(lessons)) : NOT;
    }

    public int unknown(int p, int lessons) {
        if (!isPage(p) || !areLessons(lessons)) {
            return UNKNOWN;
        }
        return told.isClosed(lessons) ? told.unknownOn(p, told.readBy(lessons)) : NOT;
    }

    public int fewest(int p, int u) {
        if (!isPage(p)) {
            return UNKNOWN;
        }
        if (isOutsideUnknown(u)) {
            return OUTSIDE;
        }
        int best = NONE;
        int bestCount = MOST_LESSONS + 1;
        for (int lessons = 0; lessons <= told.allLessons(); lessons++) {
            int count = Integer.bitCount(lessons);
            if (count < bestCount && told.isClosed(lessons) && told.unknownOn(p, told.readBy(lessons)) <= u) {
                best = lessons;
                bestCount = count;
            }
        }
        return best;
    }

    public int course(int p, int u, int j) {
        if (!isPage(p)) {
            return UNKNOWN;
        }
        if (isOutsideUnknown(u)) {
            return OUTSIDE;
        }
        if (shortest == null) {
            shortest = new Course();
        }
        shortest.find(told, p, u);
        return j == NONE ? shortest.length : at(shortest.steps, shortest.length, j);
    }

    public int hangs(int w) {
        if (!isWord(w)) {
            return UNKNOWN;
        }
        int all = told.allLessons();
        if ((told.readBy(all) >> w & 1) == 0) {
            return NONE;
        }
        int needed = 0;
        for (int l = 0; l < told.lessonCount; l++) {
            if ((told.readBy(all & ~told.withAllBehind(l)) >> w & 1) == 0) {
                needed |= 1 << l;
            }
        }
        return needed;
    }

    // ---- pupils

    public int base(int v) {
        if (v < 1 || v > MOST_BASE) {
            return OUTSIDE;
        }
        int old = school.base;
        school.base = v;
        return old;
    }

    public int take(int q, int l) {
        if (!isPupil(q) || !isLesson(l)) {
            return UNKNOWN;
        }
        Pupil pupil = school.pupils[q];
        if (!told.mayFollow(l, pupil.lessons)) {
            return NOT;
        }
        int missing = missingOf(pupil, l);
        pupil.lessons |= 1 << l;
        pupil.signs.use(told.lessonSigns[l], pupil.day, school.base);
        pupil.words.use(told.lessonSight[l], pupil.day, school.base);
        return missing;
    }

    public int read(int q, int p) {
        if (!isPupil(q) || !isPage(p)) {
            return UNKNOWN;
        }
        Pupil pupil = school.pupils[q];
        int toSay = told.pageSet[p] & ~pupil.heldWords();
        int heldSigns = pupil.heldSigns();
        int usedSigns = 0;
        int unknown = 0;
        for (int w = 0; w < told.wordCount; w++) {
            if ((toSay >> w & 1) == 0) {
                continue;
            }
            told.speech.say(told, told.words[w], heldSigns);
            if (told.speech.isRight) {
                usedSigns |= told.speech.signs;
            } else {
                unknown++;
            }
        }
        pupil.signs.use(usedSigns, pupil.day, school.base);
        pupil.words.use(told.pageSet[p], pupil.day, school.base);
        return unknown;
    }

    public int rest(int q, int n) {
        if (!isPupil(q)) {
            return UNKNOWN;
        }
        Pupil pupil = school.pupils[q];
        if (n < 1 || n > MOST_REST || pupil.day + n > LAST_DAY) {
            return OUTSIDE;
        }
        pupil.day += n;
        return pupil.day;
    }

    public int about(int q, int what) {
        if (!isPupil(q)) {
            return UNKNOWN;
        }
        Pupil pupil = school.pupils[q];
        switch (what) {
            case 0:
                return pupil.day;
            case 1:
                return pupil.lessons;
            case 2:
                return pupil.heldSigns();
            case 3:
                return pupil.heldWords();
            default:
                return OUTSIDE;
        }
    }

    public int span(int q, boolean ofWord, int k) {
        if (!isPupil(q) || (ofWord ? !isWord(k) : !isSign(k))) {
            return UNKNOWN;
        }
        Pupil pupil = school.pupils[q];
        return ofWord ? pupil.words.spans[k] : pupil.signs.spans[k];
    }

    public int meets(int q, int p) {
        if (!isPupil(q) || !isPage(p)) {
            return UNKNOWN;
        }
        return unknownFor(school.pupils[q], p);
    }

    public int next(int q, int u) {
        if (!isPupil(q)) {
            return UNKNOWN;
        }
        if (isOutsideUnknown(u)) {
            return OUTSIDE;
        }
        Pupil pupil = school.pupils[q];
        int again = lessonToTakeAgain(pupil);
        if (again != NONE) {
            return again;
        }
        int page = pageToRead(pupil, u);
        return page != NONE ? FIRST_PAGE_STEP + page : lessonToTake(pupil);
    }

    public int forAll() {
        int best = NONE;
        int least = PUPILS * MOST_PAGE_WORDS + 1;
        for (int p = 0; p < told.pageCount; p++) {
            int sum = 0;
            for (Pupil pupil : school.pupils) {
                sum += unknownFor(pupil, p);
            }
            if (sum < least) {
                best = p;
                least = sum;
            }
        }
        return best;
    }

    public int keep(int i) {
        if (!isImage(i)) {
            return UNKNOWN;
        }
        images[i].becomeLike(school);
        imagesKept |= 1 << i;
        return 1;
    }

    public int goBack(int i) {
        if (!isImage(i)) {
            return UNKNOWN;
        }
        if ((imagesKept >> i & 1) == 0) {
            return NOT;
        }
        school.becomeLike(images[i]);
        return 1;
    }

    // ---- what a pupil should do next

    private int lessonToTakeAgain(Pupil pupil) {
        for (int l = 0; l < told.lessonCount; l++) {
            if ((pupil.lessons >> l & 1) != 0 && missingOf(pupil, l) > 0) {
                return l;
            }
        }
        return NONE;
    }

    private int pageToRead(Pupil pupil, int mostUnknown) {
        int best = NONE;
        int bestUnknown = 0;
        for (int p = 0; p < told.pageCount; p++) {
            int unknown = unknownFor(pupil, p);
            if (unknown <= mostUnknown && unknown > bestUnknown) {
                best = p;
                bestUnknown = unknown;
            }
        }
        return best;
    }

    private int lessonToTake(Pupil pupil) {
        for (int l = 0; l < told.lessonCount; l++) {
            if ((pupil.lessons >> l & 1) == 0 && told.mayFollow(l, pupil.lessons)) {
                return l;
            }
        }
        return NONE;
    }

    private int missingOf(Pupil pupil, int l) {
        return Integer.bitCount(told.lessonSigns[l] & ~pupil.heldSigns())
            + Integer.bitCount(told.lessonSight[l] & ~pupil.heldWords());
    }

    private int unknownFor(Pupil pupil, int p) {
        return told.unknownOn(p, told.readAmong(told.pageSet[p], pupil.heldSigns(), pupil.heldWords()));
    }

    // ---- what there is

    private boolean isSign(int k) {
        return k >= 0 && k < told.signCount;
    }

    private boolean isWord(int w) {
        return w >= 0 && w < told.wordCount;
    }

    private boolean isLesson(int l) {
        return l >= 0 && l < told.lessonCount;
    }

    private boolean isPage(int p) {
        return p >= 0 && p < told.pageCount;
    }

    private boolean areSigns(int set) {
        return set >>> told.signCount == 0;
    }

    private boolean areLessons(int set) {
        return set >>> told.lessonCount == 0;
    }

    private static boolean isPupil(int q) {
        return q >= 0 && q < PUPILS;
    }

    private static boolean isImage(int i) {
        return i >= 0 && i < IMAGES;
    }

    private static boolean isOutsideUnknown(int u) {
        return u < 0 || u > MOST_PAGE_WORDS;
    }

    private static int at(int[] row, int length, int i) {
        return i >= 0 && i < length && i < row.length ? row[i] : NONE;
    }

    private static int bit(boolean is) {
        return is ? 1 : 0;
    }

    private static boolean areAlike(int[] row, int length, int[] other, int otherLength) {
        if (length != otherLength || length > row.length || length > other.length) {
            return false;
        }
        for (int i = 0; i < length; i++) {
            if (row[i] != other[i]) {
                return false;
            }
        }
        return true;
    }

    /** Letters that say a sound, or nothing (NONE). */
    private static final class Sign {
        final int[] letters = new int[MOST_SIGN_LETTERS];
        int length;
        int sound;
        int place;

        boolean standsAt(Word word, int from) {
            int behind = from + length;
            if (behind > word.length || place == AT_START && from != 0 || place == AT_END && behind != word.length) {
                return false;
            }
            for (int i = 0; i < length; i++) {
                if (word.letters[from + i] != letters[i]) {
                    return false;
                }
            }
            return true;
        }
    }

    /** Letters, their sounds, and for each letter the set of signs that fit there. */
    private static final class Word {
        final int[] letters = new int[MOST_LETTERS];
        int length;
        final int[] sounds = new int[MOST_SOUNDS];
        int soundCount;
        final int[] fitting = new int[MOST_LETTERS];
    }

    /** What a text told, and what follows from it alone. Its objects are made once and told anew. */
    private static final class Primer {
        final Sign[] signs = new Sign[MOST_SIGNS];
        int signCount;
        final Word[] words = new Word[MOST_WORDS];
        int wordCount;
        final int[] lessonAfter = new int[MOST_LESSONS];
        final int[] lessonSigns = new int[MOST_LESSONS];
        final int[] lessonSight = new int[MOST_LESSONS];
        int lessonCount;
        final int[][] pageWords = new int[MOST_PAGES][MOST_PAGE_WORDS];
        final int[] pageLength = new int[MOST_PAGES];
        final int[] pageSet = new int[MOST_PAGES];
        int pageCount;
        final Speech speech = new Speech();
        /** The words read by each set of lessons, NONE until it is asked for: a course asks again and again. */
        private final int[] readBySet = new int[1 << MOST_LESSONS];

        Primer() {
            for (int k = 0; k < MOST_SIGNS; k++) {
                signs[k] = new Sign();
            }
            for (int w = 0; w < MOST_WORDS; w++) {
                words[w] = new Word();
            }
            Arrays.fill(readBySet, NONE);
        }

        void clear() {
            signCount = 0;
            wordCount = 0;
            lessonCount = 0;
            pageCount = 0;
        }

        /** To be called once all is told: signs may be told behind the words that they fit. */
        void settle() {
            Arrays.fill(readBySet, NONE);
            for (int w = 0; w < wordCount; w++) {
                Word word = words[w];
                for (int i = 0; i < word.length; i++) {
                    word.fitting[i] = signsStandingAt(word, i);
                }
            }
        }

        private int signsStandingAt(Word word, int from) {
            int set = 0;
            for (int k = 0; k < signCount; k++) {
                if (signs[k].standsAt(word, from)) {
                    set |= 1 << k;
                }
            }
            return set;
        }

        int allLessons() {
            return (1 << lessonCount) - 1;
        }

        boolean mayFollow(int l, int lessons) {
            return (lessonAfter[l] & ~lessons) == 0;
        }

        boolean isClosed(int lessons) {
            for (int l = 0; l < lessonCount; l++) {
                if ((lessons >> l & 1) != 0 && !mayFollow(l, lessons)) {
                    return false;
                }
            }
            return true;
        }

        /** One walk is enough: a lesson comes behind lessons with lesser numbers only. */
        int withAllBehind(int first) {
            int set = 1 << first;
            for (int l = first + 1; l < lessonCount; l++) {
                if ((lessonAfter[l] & set) != 0) {
                    set |= 1 << l;
                }
            }
            return set;
        }

        int signsOf(int lessons) {
            return unionOf(lessonSigns, lessons);
        }

        private int unionOf(int[] sets, int lessons) {
            int union = 0;
            for (int l = 0; l < lessonCount; l++) {
                if ((lessons >> l & 1) != 0) {
                    union |= sets[l];
                }
            }
            return union;
        }

        int readBy(int lessons) {
            if (lessons < 0 || lessons >= readBySet.length) {
                return 0;
            }
            if (readBySet[lessons] == NONE) {
                int allWords = (1 << wordCount) - 1;
                readBySet[lessons] = readAmong(allWords, signsOf(lessons), unionOf(lessonSight, lessons));
            }
            return readBySet[lessons];
        }

        /** Of a set of words those that are known as a whole or come out right. */
        int readAmong(int asked, int signSet, int knownWords) {
            int readWords = asked & knownWords;
            for (int w = 0; w < wordCount; w++) {
                if (((asked & ~knownWords) >> w & 1) == 0) {
                    continue;
                }
                speech.say(this, words[w], signSet);
                if (speech.isRight) {
                    readWords |= 1 << w;
                }
            }
            return readWords;
        }

        int unknownOn(int p, int knownWords) {
            return Integer.bitCount(pageSet[p] & ~knownWords);
        }

        /** The words whose sounds come out instead of the word's own. */
        int takenFor(Word word, int signSet) {
            speech.say(this, word, signSet);
            if (speech.isRight || !speech.cameToEnd) {
                return 0;
            }
            int set = 0;
            for (int w = 0; w < wordCount; w++) {
                if (areAlike(words[w].sounds, words[w].soundCount, speech.sounds, speech.count)) {
                    set |= 1 << w;
                }
            }
            return set;
        }
    }

    /** How a word comes out aloud. */
    private static final class Speech {
        final int[] sounds = new int[MOST_SOUNDS];
        int count;
        /** The set of signs that came out, those that say nothing too. */
        int signs;
        boolean cameToEnd;
        boolean isRight;

        void say(Primer told, Word word, int signSet) {
            count = 0;
            signs = 0;
            int at = 0;
            while (at < word.length) {
                int k = longest(told, word.fitting[at] & signSet);
                if (k == NONE) {
                    break;
                }
                Sign sign = told.signs[k];
                signs |= 1 << k;
                if (sign.sound != NONE && count < sounds.length) {
                    sounds[count++] = sign.sound;
                }
                at += Math.max(1, sign.length);
            }
            cameToEnd = at >= word.length;
            isRight = cameToEnd && areAlike(word.sounds, word.soundCount, sounds, count);
        }

        private static int longest(Primer told, int signSet) {
            int best = NONE;
            int most = 0;
            for (int k = 0; k < told.signCount; k++) {
                if ((signSet >> k & 1) != 0 && told.signs[k].length > most) {
                    best = k;
                    most = told.signs[k].length;
                }
            }
            return best;
        }
    }

    /** How a word would be spelt from its sounds. */
    private static final class Spelling {
        final int[] letters = new int[MOST_SOUNDS * MOST_SIGN_LETTERS];
        int count;
        boolean isWell;

        void spell(Primer told, Word word, int signSet) {
            count = 0;
            isWell = false;
            for (int s = 0; s < word.soundCount; s++) {
                int k = firstFor(told, word, s, signSet);
                if (k == NONE) {
                    return;
                }
                append(told.signs[k]);
            }
            isWell = areAlike(word.letters, word.length, letters, count);
        }

        private static int firstFor(Primer told, Word word, int s, int signSet) {
            for (int k = 0; k < told.signCount; k++) {
                Sign sign = told.signs[k];
                boolean misplaced = sign.place == AT_START && s != 0
                    || sign.place == AT_END && s != word.soundCount - 1;
                if ((signSet >> k & 1) != 0 && sign.sound == word.sounds[s] && !misplaced) {
                    return k;
                }
            }
            return NONE;
        }

        private void append(Sign sign) {
            for (int i = 0; i < sign.length && count < letters.length; i++) {
                letters[count++] = sign.letters[i];
            }
        }
    }

    /** In how many ways a word can be cut into signs that say it, and the first of them. */
    private static final class Cuts {
        private static final int WIDTH = MOST_SOUNDS + 1;
        /** For each letter and each sound: the ways to cut what is left from there on. */
        private final long[] ways = new long[(MOST_LETTERS + 1) * WIDTH];
        final int[] first = new int[MOST_LETTERS];
        /** How many signs the first one has; NONE: there is none. */
        int length;

        long inAll() {
            return ways[0];
        }

        void countWays(Primer told, Word word, int signSet) {
            Arrays.fill(ways, 0L);
            ways[word.length * WIDTH + word.soundCount] = 1;
            for (int i = word.length - 1; i >= 0; i--) {
                for (int s = word.soundCount; s >= 0; s--) {
                    long sum = 0;
                    for (int k = 0; k < told.signCount; k++) {
                        if ((word.fitting[i] & signSet & 1 << k) != 0) {
                            sum += waysBehind(told.signs[k], word, i, s);
                        }
                    }
                    ways[i * WIDTH + s] = sum;
                }
            }
        }

        /** The ways to go on behind a sign that fits at letter i, with sound s due. */
        private long waysBehind(Sign sign, Word word, int i, int s) {
            int behind = (i + sign.length) * WIDTH + s;
            if (sign.sound == NONE) {
                return ways[behind];
            }
            return s < word.soundCount && word.sounds[s] == sign.sound ? ways[behind + 1] : 0;
        }

        /** To be called behind countWays with the same word and signs. */
        void findFirst(Primer told, Word word, int signSet) {
            length = inAll() > 0 ? 0 : NONE;
            int i = 0;
            int s = 0;
            while (length != NONE && length < first.length && i < word.length) {
                int k = firstThatGoesOn(told, word, i, s, signSet);
                if (k == NONE) {
                    break;
                }
                first[length++] = k;
                i += told.signs[k].length;
                s += told.signs[k].sound == NONE ? 0 : 1;
            }
        }

        private int firstThatGoesOn(Primer told, Word word, int i, int s, int signSet) {
            for (int k = 0; k < told.signCount; k++) {
                if ((word.fitting[i] & signSet & 1 << k) != 0 && waysBehind(told.signs[k], word, i, s) > 0) {
                    return k;
                }
            }
            return NONE;
        }
    }

    /**
     * The shortest course to a page. States are sets of lessons taken and pages read; they are met in
     * order of steps and, of like ones, of their first courses, so the first state from which the page
     * can be read has the course that is due.
     */
    private static final class Course {
        /** The page that is looked for is in no state, hence one bit less. */
        private static final int MOST_STATES = 1 << MOST_LESSONS + MOST_PAGES - 1;
        private final int[] states = new int[MOST_STATES];
        private final int[] cameFrom = new int[MOST_STATES];
        private final long[] seen = new long[MOST_STATES * 2 / 64];
        private int stateCount;
        private Primer told;
        private int page = NONE;
        private int mostUnknown;
        private int lastState;
        final int[] steps = new int[MOST_LESSONS + MOST_PAGES];
        /** How many steps it has; NONE: there is no course. */
        int length;

        void forget() {
            page = NONE;
        }

        void find(Primer primer, int p, int u) {
            if (p == page && u == mostUnknown) {
                return;
            }
            told = primer;
            page = p;
            mostUnknown = u;
            stateCount = 0;
            lastState = NONE;
            Arrays.fill(seen, 0L);
            arrive(0, NONE, told.readBy(0));
            for (int i = 0; i < MOST_STATES && i < stateCount && lastState == NONE; i++) {
                goOnFrom(i);
            }
            writeSteps();
        }

        /** A state is looked up first of all: most ways lead to states that were met before. */
        private void goOnFrom(int index) {
            int state = states[index];
            int metWords = metIn(state);
            int knownWords = metWords | told.readBy(lessonsIn(state));
            for (int l = 0; l < told.lessonCount && lastState == NONE; l++) {
                int next = state | 1 << l;
                if (isNew(next) && told.mayFollow(l, state)) {
                    arrive(next, index, metWords | told.readBy(lessonsIn(next)));
                }
            }
            for (int p = 0; p < told.pageCount && lastState == NONE; p++) {
                int next = state | 1 << MOST_LESSONS + p;
                // a page with no word that was not met before is no step of a shortest course
                boolean isOfUse = p != page && (told.pageSet[p] & ~metWords) != 0;
                if (isOfUse && isNew(next) && told.unknownOn(p, knownWords) <= mostUnknown) {
                    arrive(next, index, knownWords | told.pageSet[p]);
                }
            }
        }

        private boolean isNew(int state) {
            return (seen[state >> 6] >>> (state & 63) & 1) == 0;
        }

        private void arrive(int state, int from, int knownWords) {
            if (stateCount >= MOST_STATES) {
                return;
            }
            seen[state >> 6] |= 1L << (state & 63);
            states[stateCount] = state;
            cameFrom[stateCount] = from;
            if (told.unknownOn(page, knownWords) <= mostUnknown) {
                lastState = stateCount;
            }
            stateCount++;
        }

        private void writeSteps() {
            if (lastState == NONE) {
                length = NONE;
                return;
            }
            int index = lastState;
            length = Integer.bitCount(states[index]) + 1;
            steps[length - 1] = FIRST_PAGE_STEP + page;
            for (int j = length - 2; j >= 0 && cameFrom[index] != NONE; j--) {
                int before = cameFrom[index];
                steps[j] = stepOf(states[index] & ~states[before]);
                index = before;
            }
        }

        /** One less than a single bit has just the bits below it: as many as the bit's number. */
        private static int stepOf(int single) {
            int number = Integer.bitCount(single - 1);
            return number < MOST_LESSONS ? number : FIRST_PAGE_STEP + number - MOST_LESSONS;
        }

        private static int lessonsIn(int state) {
            return state & (1 << MOST_LESSONS) - 1;
        }

        private int metIn(int state) {
            int words = 0;
            for (int p = 0; p < told.pageCount; p++) {
                if ((state >> MOST_LESSONS + p & 1) != 0) {
                    words |= told.pageSet[p];
                }
            }
            return words;
        }
    }

    /** What was used, when last, and how long it is held from then. */
    private static final class Memory {
        /** 0: never used. */
        final int[] spans;
        private final int[] lastDays;

        Memory(int size) {
            spans = new int[size];
            lastDays = new int[size];
        }

        void clear() {
            Arrays.fill(spans, 0);
            Arrays.fill(lastDays, 0);
        }

        void becomeLike(Memory other) {
            int size = Math.min(spans.length, other.spans.length);
            System.arraycopy(other.spans, 0, spans, 0, size);
            System.arraycopy(other.lastDays, 0, lastDays, 0, size);
        }

        int heldOn(int day) {
            int set = 0;
            for (int k = 0; k < spans.length; k++) {
                if (spans[k] > 0 && day - lastDays[k] <= spans[k]) {
                    set |= 1 << k;
                }
            }
            return set;
        }

        void use(int set, int day, int base) {
            int held = heldOn(day);
            for (int k = 0; k < spans.length; k++) {
                boolean isUsed = (set >> k & 1) != 0;
                boolean wasToday = spans[k] > 0 && lastDays[k] == day;
                if (isUsed && !wasToday) {
                    spans[k] = (held >> k & 1) != 0 ? Math.min(MOST_SPAN, 2 * spans[k]) : base;
                    lastDays[k] = day;
                }
            }
        }
    }

    /** A pupil's day, the lessons taken, the signs and words used. */
    private static final class Pupil {
        int day;
        int lessons;
        final Memory signs = new Memory(MOST_SIGNS);
        final Memory words = new Memory(MOST_WORDS);

        int heldSigns() {
            return signs.heldOn(day);
        }

        int heldWords() {
            return words.heldOn(day);
        }

        void beginAnew() {
            day = 0;
            lessons = 0;
            signs.clear();
            words.clear();
        }

        void becomeLike(Pupil other) {
            day = other.day;
            lessons = other.lessons;
            signs.becomeLike(other.signs);
            words.becomeLike(other.words);
        }
    }

    /** All that an image keeps: the pupils and the first span. */
    private static final class School {
        final Pupil[] pupils = {new Pupil(), new Pupil(), new Pupil()};
        int base = FIRST_BASE;

        void beginAnew() {
            for (Pupil pupil : pupils) {
                pupil.beginAnew();
            }
        }

        void becomeLike(School other) {
            base = other.base;
            for (int q = 0; q < PUPILS; q++) {
                pupils[q].becomeLike(other.pupils[q]);
            }
        }
    }

    /**
     * The text, and how it is read from left to right. The first fault found is the one that is due:
     * each is found at its byte, and of those at one byte the least is looked for first.
     */
    private static final class Parser {
        private static final int CANNOT_STAND = 1;
        private static final int BAD_NUMBER = 2;
        private static final int CLAUSE_TOO_MANY = 3;
        private static final int TOO_MANY = 4;
        private static final int BAD_WORD = 5;
        private static final int NUMBER_AGAIN = 6;
        private static final int BEHIND_TEXT = -1;

        private final byte[] text = new byte[MOST_BYTES];
        int length;
        private int at;
        /** The first figure of the number read last. */
        private int numberAt;
        private Primer draft;
        int clauses;
        int fault;
        int faultAt = NONE;

        void append(byte b) {
            if (length < text.length) {
                text[length++] = b;
            }
        }

        /** The text is empty behind it. */
        void parse(Primer into) {
            draft = into;
            draft.clear();
            at = 0;
            clauses = 0;
            fault = 0;
            faultAt = NONE;
            skipBlanks();
            for (int i = 0; i < MOST_BYTES && at < length && fault == 0; i++) {
                parseClause();
                skipBlanks();
            }
            length = 0;
        }

        private void parseClause() {
            int start = at;
            if (acceptsWord("sign")) {
                parseSign(start);
            } else if (acceptsWord("word")) {
                parseWord(start);
            } else if (acceptsWord("lesson")) {
                parseLesson(start);
            } else if (acceptsWord("page")) {
                parsePage(start);
            } else {
                fail(CANNOT_STAND, start);
            }
            if (!accepts(';')) {
                fail(CANNOT_STAND, at);
            }
            clauses++;
        }

        private void parseSign(int start) {
            if (draft.signCount >= MOST_SIGNS) {
                fail(CLAUSE_TOO_MANY, start);
                return;
            }
            Sign sign = draft.signs[draft.signCount];
            sign.length = parseLetters(sign.letters);
            sign.sound = accepts('-') ? NONE : parseNumber(SOUNDS_IN_ALL);
            sign.place = ANYWHERE;
            if (acceptsWord("start")) {
                sign.place = AT_START;
            } else if (acceptsWord("end")) {
                sign.place = AT_END;
            }
            draft.signCount++;
        }

        private void parseWord(int start) {
            if (draft.wordCount >= MOST_WORDS) {
                fail(CLAUSE_TOO_MANY, start);
                return;
            }
            skipBlanks();
            if (wordAhead() != NONE) {
                fail(BAD_WORD, at);
            }
            Word word = draft.words[draft.wordCount];
            word.length = parseLetters(word.letters);
            word.soundCount = 0;
            parseSound(word);
            for (int i = 0; i < MOST_SOUNDS && isFigure(look()); i++) {
                parseSound(word);
            }
            draft.wordCount++;
        }

        private void parseSound(Word word) {
            int sound = parseNumber(SOUNDS_IN_ALL);
            if (word.soundCount < MOST_SOUNDS) {
                word.sounds[word.soundCount++] = sound;
            } else {
                fail(TOO_MANY, numberAt);
            }
            skipBlanks();
        }

        private void parseLesson(int start) {
            int l = draft.lessonCount;
            if (l >= MOST_LESSONS) {
                fail(CLAUSE_TOO_MANY, start);
                return;
            }
            draft.lessonAfter[l] = acceptsWord("after") ? parseList(l) : 0;
            draft.lessonSigns[l] = acceptsWord("signs") ? parseList(draft.signCount) : 0;
            draft.lessonSight[l] = acceptsWord("sight") ? parseList(draft.wordCount) : 0;
            draft.lessonCount++;
        }

        private void parsePage(int start) {
            int p = draft.pageCount;
            if (p >= MOST_PAGES) {
                fail(CLAUSE_TOO_MANY, start);
                return;
            }
            draft.pageLength[p] = 0;
            draft.pageSet[p] = 0;
            parsePageWord(p);
            for (int i = 0; i < MOST_PAGE_WORDS && isLetter(look()); i++) {
                parsePageWord(p);
            }
            draft.pageCount++;
        }

        private void parsePageWord(int p) {
            skipBlanks();
            int i = draft.pageLength[p];
            int w = wordAhead();
            if (!isLetter(look())) {
                fail(CANNOT_STAND, at);
            } else if (i >= MOST_PAGE_WORDS) {
                fail(TOO_MANY, at);
            } else if (w == NONE) {
                fail(BAD_WORD, at);
            } else {
                draft.pageWords[p][i] = w;
                draft.pageLength[p] = i + 1;
                draft.pageSet[p] |= 1 << w;
                at = lettersEnd();
                skipBlanks();
            }
        }

        /** Numbers below a bound, as a set. */
        private int parseList(int bound) {
            int set = 0;
            boolean goesOn = true;
            // one more than all unlike numbers: the last one is a fault at the latest
            for (int i = 0; i <= bound && goesOn; i++) {
                int number = parseNumber(bound);
                if ((set >> number & 1) != 0) {
                    fail(NUMBER_AGAIN, numberAt);
                }
                set |= 1 << number;
                goesOn = fault == 0 && accepts(',');
            }
            return set;
        }

        /** A number below a bound; 0 where there is a fault. */
        private int parseNumber(int bound) {
            skipBlanks();
            numberAt = at;
            int number = 0;
            while (at < length && isFigure(text[at])) {
                number = Math.min(1000, number * 10 + text[at] - '0');
                at++;
            }
            if (at == numberAt) {
                fail(CANNOT_STAND, numberAt);
            } else if (at - numberAt > 2 || number >= bound) {
                fail(BAD_NUMBER, numberAt);
            }
            return fault == 0 ? number : 0;
        }

        /** How many letters were put into the row. */
        private int parseLetters(int[] row) {
            skipBlanks();
            int first = at;
            int end = lettersEnd();
            if (end == first) {
                fail(CANNOT_STAND, first);
            } else if (end - first > row.length) {
                fail(TOO_MANY, first + row.length);
            }
            int count = Math.min(end - first, row.length);
            for (int i = 0; i < count; i++) {
                row[i] = text[first + i] - 'a';
            }
            at = end;
            return count;
        }

        /** The told word with just the letters that stand ahead. */
        private int wordAhead() {
            int count = lettersEnd() - at;
            for (int w = 0; w < draft.wordCount; w++) {
                Word word = draft.words[w];
                boolean isAlike = word.length == count;
                for (int i = 0; i < word.length && isAlike; i++) {
                    isAlike = text[at + i] - 'a' == word.letters[i];
                }
                if (isAlike) {
                    return w;
                }
            }
            return NONE;
        }

        private boolean acceptsWord(String keyword) {
            skipBlanks();
            int count = lettersEnd() - at;
            if (count != keyword.length()) {
                return false;
            }
            for (int i = 0; i < count; i++) {
                if (text[at + i] != keyword.charAt(i)) {
                    return false;
                }
            }
            at += count;
            return true;
        }

        private boolean accepts(int b) {
            skipBlanks();
            if (look() != b) {
                return false;
            }
            at++;
            return true;
        }

        private int lettersEnd() {
            int end = at;
            while (end < length && isLetter(text[end])) {
                end++;
            }
            return end;
        }

        private void skipBlanks() {
            while (at < length && text[at] == ' ') {
                at++;
            }
        }

        private int look() {
            return at < length ? text[at] & 255 : BEHIND_TEXT;
        }

        private static boolean isLetter(int b) {
            return b >= 'a' && b <= 'z';
        }

        private static boolean isFigure(int b) {
            return b >= '0' && b <= '9';
        }

        private void fail(int kind, int where) {
            if (fault == 0) {
                fault = kind;
                faultAt = where;
            }
        }
    }
}
