/** The opening part up to the first section: how many calls, the constants, numbers, sets, refusals. */
public final class TermsEdgesTest {
    private static final int NONE = FirstReader.NONE, UNKNOWN = FirstReader.UNKNOWN,
        OUTSIDE = FirstReader.OUTSIDE, NOT = FirstReader.NOT, FULL = FirstReader.FULL;
    /** One of each. */
    private static final String ONE = "sign a 1;word a 1;lesson signs 0;page a;";
    /** A second lesson that cannot come first. */
    private static final String BEHIND = "word a 1;page a;lesson;lesson after 0 sight 0;";
    private static final int[] NO_NUMBERS = {-1, 1, 2, 31, 32, Integer.MIN_VALUE, Integer.MAX_VALUE};
    private static final int[] NO_SETS = {2, 3, 1 << 20, 1 << 30, -1, Integer.MIN_VALUE, Integer.MAX_VALUE};

    public static void main(String[] args) throws Exception {
        Edges.run(TermsEdgesTest.class);
    }

    private static FirstReader full() {
        FirstReader x = new FirstReader();
        Due.feed(x, " ".repeat(600));
        return x;
    }

    // ---- calls and constants

    @Says(promise = 0, words = "An object is used for at most 512 calls after it has been made; what later calls answer is free.")
    static void the512thCallIsStillAnswered(Due due) {
        FirstReader x = due.reader("word a 1;page a;lesson;");
        for (int call = 3 + 3; call <= 511; call++) {
            x.rest(0, 1);
        }
        due.is("about(0, 0)", x.about(0, 0), 506);
    }

    @Says(promise = 0, words = "An object is used for at most 512 calls after it has been made")
    static void the512thCallMayBeTheDearest(Due due) {
        FirstReader x = new FirstReader();
        Due.feed(x, "word a 1;word b 1;page a b;page a;lesson;lesson sight 1;");
        x.primer();
        for (int call = 9; call <= 511; call++) {
            x.course(call % 2, call % 3, NONE);
        }
        due.is("course(0, 0, NONE)", x.course(0, 0, NONE), NONE);
    }

    @Says(promise = 0, words = "An object is used for at most 512 calls after it has been made")
    static void the512thCallMayBeAPrimer(Due due) {
        FirstReader x = new FirstReader();
        for (int i = 0; i < 255; i++) {
            x.feed(1, ' ');
            x.primer();
        }
        due.is("feed(8)", x.feed(8, 0x6C6573736F6E3B20L), 8);
        due.is("primer()", x.primer(), 1);
    }

    @Says(promise = 0, words = "public static final int NONE = -1, UNKNOWN = -1001, OUTSIDE = -1002, NOT = -1003, FULL = -1004;")
    static void theConstants(Due due) {
        due.is("NONE", NONE, -1);
        due.is("UNKNOWN", UNKNOWN, -1001);
        due.is("OUTSIDE", OUTSIDE, -1002);
        due.is("NOT", NOT, -1003);
        due.is("FULL", FULL, -1004);
    }

    @Says(promise = 0, words = "public FirstReader();")
    static void eachNewObjectIsItsOwn(Due due) {
        FirstReader x = due.reader(ONE);
        x.take(0, 0);
        x.base(9);
        FirstReader y = new FirstReader();
        due.row("count of the other", 0, y::count, 0, 0, 0, 0, 0, 3);
        due.is("about(0, 1) of the other", y.about(0, 1), 0);
    }

    // ---- numbers and sets

    @Says(promise = 0, words = "What has a number has it from 0 on, as it comes.")
    static void signsAreNumberedAsTheyCome(Due due) {
        FirstReader x = due.reader("sign c 1;word z 2;sign b 3;lesson;sign a 4;");
        due.row("the sounds of signs", 0, k -> x.sign(k, 1), 1, 3, 4, UNKNOWN);
    }

    @Says(promise = 0, words = "What has a number has it from 0 on, as it comes.")
    static void wordsAreNumberedAsTheyCome(Due due) {
        FirstReader x = due.reader("word c 1;sign z 2;word b 3;lesson;word a 4;");
        due.row("the sounds of words", 0, w -> x.word(w, 10), 1, 3, 4, UNKNOWN);
    }

    @Says(promise = 0, words = "What has a number has it from 0 on, as it comes.")
    static void lessonsAreNumberedAsTheyCome(Due due) {
        FirstReader x = due.reader("sign a 1;sign b 2;lesson signs 1;word a 1;lesson signs 0;page a;lesson;");
        due.row("the signs of lessons", 0, l -> x.lesson(l, 1), 2, 1, 0, UNKNOWN);
    }

    @Says(promise = 0, words = "What has a number has it from 0 on, as it comes.")
    static void pagesAreNumberedAsTheyCome(Due due) {
        FirstReader x = due.reader("word a 1;word b 2;page b;lesson;page a;sign a 1;page b;");
        due.row("the words of pages", 0, p -> x.page(p, NONE), 2, 1, 2, UNKNOWN);
    }

    @Says(promise = 0, words = "A SET is a whole number, bit k for k.")
    static void theLastSignIsBit19(Due due) {
        FirstReader x = due.reader("sign a 1;".repeat(20) + "lesson signs 19,0;");
        due.is("lesson(0, 1)", x.lesson(0, 1), 1 << 19 | 1);
        due.is("taught(1)", x.taught(1), 1 << 19 | 1);
    }

    @Says(promise = 0, words = "A SET is a whole number, bit k for k.")
    static void theLastWordIsBit23(Due due) {
        FirstReader x = due.reader(Texts.words(24) + "lesson sight 23,0;page x a;");
        due.is("lesson(0, 2)", x.lesson(0, 2), 1 << 23 | 1);
        due.is("reads(1)", x.reads(1), 1 << 23 | 1);
        due.is("page(0, NONE)", x.page(0, NONE), 1 << 23 | 1);
    }

    @Says(promise = 0, words = "A SET is a whole number, bit k for k.")
    static void theLastLessonIsBit6(Due due) {
        FirstReader x = due.reader("word a 1;page a;" + "lesson;".repeat(6) + "lesson sight 0;");
        x.take(0, 6);
        due.is("about(0, 1)", x.about(0, 1), 1 << 6);
        due.is("fewest(0, 0)", x.fewest(0, 0), 1 << 6);
    }

    @Says(promise = 0, words = "NONE is -1.")
    static void minusOneAsksForTheNumber(Due due) {
        FirstReader x = due.reader(ONE);
        due.is("aloud(0, 1, -1)", x.aloud(0, 1, -1), 1);
        due.is("page(0, -1)", x.page(0, -1), 1);
        due.is("what there is none of", x.aloud(0, 1, 1), -1);
    }

    // ---- UNKNOWN

    @Says(promise = 0, words = "UNKNOWN (a SIGN, WORD, LESSON, PAGE, PUPIL, IMAGE that there is not")
    static void aSignThatThereIsNot(Due due) {
        FirstReader x = due.reader(ONE);
        for (int k : NO_NUMBERS) {
            due.is("sign(" + k + ", 0)", x.sign(k, 0), UNKNOWN);
            due.is("fits(" + k + ", 0, 0)", x.fits(k, 0, 0), UNKNOWN);
            due.is("span(0, false, " + k + ")", x.span(0, false, k), UNKNOWN);
        }
    }

    @Says(promise = 0, words = "UNKNOWN (a SIGN, WORD, LESSON, PAGE, PUPIL, IMAGE that there is not")
    static void aWordThatThereIsNot(Due due) {
        FirstReader x = due.reader(ONE);
        for (int w : NO_NUMBERS) {
            due.is("word(" + w + ", 0)", x.word(w, 0), UNKNOWN);
            due.is("fits(0, " + w + ", 0)", x.fits(0, w, 0), UNKNOWN);
            due.is("ways(" + w + ", 1)", x.ways(w, 1), UNKNOWN);
            due.is("cut(" + w + ", 1, 0)", x.cut(w, 1, 0), UNKNOWN);
            due.is("aloud(" + w + ", 1, 0)", x.aloud(w, 1, 0), UNKNOWN);
            due.is("right(" + w + ", 1, 0)", x.right(w, 1, 0), UNKNOWN);
            due.is("spelt(" + w + ", 1, 0)", x.spelt(w, 1, 0), UNKNOWN);
            due.is("mixed(" + w + ", 1)", x.mixed(w, 1), UNKNOWN);
            due.is("hangs(" + w + ")", x.hangs(w), UNKNOWN);
            due.is("span(0, true, " + w + ")", x.span(0, true, w), UNKNOWN);
        }
    }

    @Says(promise = 0, words = "UNKNOWN (a SIGN, WORD, LESSON, PAGE, PUPIL, IMAGE that there is not")
    static void aLessonThatThereIsNot(Due due) {
        FirstReader x = due.reader(ONE);
        for (int l : NO_NUMBERS) {
            due.is("lesson(" + l + ", 0)", x.lesson(l, 0), UNKNOWN);
            due.is("take(0, " + l + ")", x.take(0, l), UNKNOWN);
        }
    }

    @Says(promise = 0, words = "UNKNOWN (a SIGN, WORD, LESSON, PAGE, PUPIL, IMAGE that there is not")
    static void aPageThatThereIsNot(Due due) {
        FirstReader x = due.reader(ONE);
        for (int p : NO_NUMBERS) {
            due.is("page(" + p + ", 0)", x.page(p, 0), UNKNOWN);
            due.is("unknown(" + p + ", 0)", x.unknown(p, 0), UNKNOWN);
            due.is("fewest(" + p + ", 0)", x.fewest(p, 0), UNKNOWN);
            due.is("course(" + p + ", 0, 0)", x.course(p, 0, 0), UNKNOWN);
            due.is("read(0, " + p + ")", x.read(0, p), UNKNOWN);
            due.is("meets(0, " + p + ")", x.meets(0, p), UNKNOWN);
        }
    }

    @Says(promise = 0, words = "UNKNOWN (a SIGN, WORD, LESSON, PAGE, PUPIL, IMAGE that there is not")
    static void aPupilThatThereIsNot(Due due) {
        FirstReader x = due.reader(ONE);
        for (int q : new int[] {-1, 3, 4, Integer.MIN_VALUE, Integer.MAX_VALUE}) {
            due.is("take(" + q + ", 0)", x.take(q, 0), UNKNOWN);
            due.is("read(" + q + ", 0)", x.read(q, 0), UNKNOWN);
            due.is("rest(" + q + ", 1)", x.rest(q, 1), UNKNOWN);
            due.is("about(" + q + ", 0)", x.about(q, 0), UNKNOWN);
            due.is("span(" + q + ", false, 0)", x.span(q, false, 0), UNKNOWN);
            due.is("span(" + q + ", true, 0)", x.span(q, true, 0), UNKNOWN);
            due.is("meets(" + q + ", 0)", x.meets(q, 0), UNKNOWN);
            due.is("next(" + q + ", 0)", x.next(q, 0), UNKNOWN);
        }
    }

    @Says(promise = 0, words = "UNKNOWN (a SIGN, WORD, LESSON, PAGE, PUPIL, IMAGE that there is not")
    static void anImageThatThereIsNot(Due due) {
        FirstReader x = new FirstReader();
        for (int i : new int[] {-1, 2, 3, 32, Integer.MIN_VALUE, Integer.MAX_VALUE}) {
            due.is("keep(" + i + ")", x.keep(i), UNKNOWN);
            due.is("goBack(" + i + ")", x.goBack(i), UNKNOWN);
        }
    }

    @Says(promise = 0, words = "bits of such")
    static void bitsOfSignsThatThereAreNot(Due due) {
        FirstReader x = due.reader(ONE);
        for (int set : NO_SETS) {
            due.is("ways(0, " + set + ")", x.ways(0, set), UNKNOWN);
            due.is("cut(0, " + set + ", 0)", x.cut(0, set, 0), UNKNOWN);
            due.is("aloud(0, " + set + ", 0)", x.aloud(0, set, 0), UNKNOWN);
            due.is("right(0, " + set + ", 0)", x.right(0, set, 0), UNKNOWN);
            due.is("spelt(0, " + set + ", 0)", x.spelt(0, set, 0), UNKNOWN);
        }
    }

    @Says(promise = 0, words = "bits of such")
    static void bitsOfLessonsThatThereAreNot(Due due) {
        FirstReader x = due.reader(ONE);
        for (int set : NO_SETS) {
            due.is("taught(" + set + ")", x.taught(set), UNKNOWN);
            due.is("reads(" + set + ")", x.reads(set), UNKNOWN);
            due.is("mixed(0, " + set + ")", x.mixed(0, set), UNKNOWN);
            due.is("unknown(0, " + set + ")", x.unknown(0, set), UNKNOWN);
        }
    }

    @Says(promise = 0, words = "bits of such")
    static void everyBitIsOfSuchInAnEmptyPrimer(Due due) {
        FirstReader x = new FirstReader();
        for (int k = 0; k < 32; k++) {
            due.is("taught(bit " + k + ")", x.taught(1 << k), UNKNOWN);
            due.is("reads(bit " + k + ")", x.reads(1 << k), UNKNOWN);
        }
    }

    @Says(promise = 0, words = "bits of such")
    static void bitsBeyondAFullPrimer(Due due) {
        FirstReader x = due.reader("sign a 1;".repeat(20) + "word a 1;" + "lesson;".repeat(7));
        due.is("ways by all 20 signs", x.ways(0, (1 << 20) - 1), 20);
        due.is("taught by all 7 lessons", x.taught(127), 0);
        for (int k = 20; k < 32; k++) {
            due.is("ways(0, bit " + k + ")", x.ways(0, 1 << k), UNKNOWN);
        }
        for (int l = 7; l < 32; l++) {
            due.is("taught(bit " + l + ")", x.taught(1 << l), UNKNOWN);
        }
    }

    @Says(promise = 0, words = "bits of such")
    static void bitsOfSignsThatAnEarlierPrimerHad(Due due) {
        FirstReader x = due.reader("sign a 1;sign b 1;word a 1;lesson;lesson;");
        Due.feed(x, "sign a 1;word a 1;lesson;");
        x.primer();
        due.is("ways(0, 2)", x.ways(0, 2), UNKNOWN);
        due.is("taught(2)", x.taught(2), UNKNOWN);
    }

    // ---- the order of refusals

    @Says(promise = 0, words = "REFUSALS, of several the first in this order: UNKNOWN")
    static void unknownIsAheadOfOutside(Due due) {
        FirstReader x = due.reader(ONE);
        due.is("sign(1, 7)", x.sign(1, 7), UNKNOWN);
        due.is("word(1, 18)", x.word(1, 18), UNKNOWN);
        due.is("lesson(1, 3)", x.lesson(1, 3), UNKNOWN);
        due.is("page(1, 16)", x.page(1, 16), UNKNOWN);
        due.is("fits(1, 0, 1)", x.fits(1, 0, 1), UNKNOWN);
        due.is("fits(0, 1, -1)", x.fits(0, 1, -1), UNKNOWN);
        due.is("right(1, 1, 3)", x.right(1, 1, 3), UNKNOWN);
        due.is("right(0, 2, 3)", x.right(0, 2, 3), UNKNOWN);
        due.is("fewest(1, 17)", x.fewest(1, 17), UNKNOWN);
        due.is("course(1, 17, 0)", x.course(1, 17, 0), UNKNOWN);
        due.is("rest(3, 0)", x.rest(3, 0), UNKNOWN);
        due.is("about(3, 4)", x.about(3, 4), UNKNOWN);
        due.is("next(3, 17)", x.next(3, 17), UNKNOWN);
    }

    @Says(promise = 0, words = "REFUSALS, of several the first in this order: UNKNOWN")
    static void unknownIsAheadOfNot(Due due) {
        FirstReader x = due.reader(BEHIND);
        due.is("taught(6)", x.taught(6), UNKNOWN);
        due.is("reads(6)", x.reads(6), UNKNOWN);
        due.is("mixed(1, 2)", x.mixed(1, 2), UNKNOWN);
        due.is("mixed(0, 6)", x.mixed(0, 6), UNKNOWN);
        due.is("unknown(1, 2)", x.unknown(1, 2), UNKNOWN);
        due.is("unknown(0, 6)", x.unknown(0, 6), UNKNOWN);
        due.is("take(3, 1)", x.take(3, 1), UNKNOWN);
        due.is("goBack(2), never kept", x.goBack(2), UNKNOWN);
    }

    @Says(promise = 0, words = {"OUTSIDE (another number out of its bounds), NOT (not now, as told), FULL."})
    static void outsideIsAheadOfFull(Due due) {
        FirstReader x = full();
        due.is("feed(0)", x.feed(0, ' '), OUTSIDE);
        due.is("feed(9)", x.feed(9, ' '), OUTSIDE);
        due.is("feed(1)", x.feed(1, ' '), FULL);
    }

    @Says(promise = 0, words = "OUTSIDE (another number out of its bounds)")
    static void numbersOutOfTheirBounds(Due due) {
        FirstReader x = due.reader(ONE);
        for (int far : new int[] {Integer.MIN_VALUE, -1001, -2, 10000, 1 << 20, Integer.MAX_VALUE}) {
            due.is("feed(" + far + ")", x.feed(far, 0), OUTSIDE);
            due.is("sign(0, " + far + ")", x.sign(0, far), OUTSIDE);
            due.is("word(0, " + far + ")", x.word(0, far), OUTSIDE);
            due.is("lesson(0, " + far + ")", x.lesson(0, far), OUTSIDE);
            due.is("page(0, " + far + ")", x.page(0, far), OUTSIDE);
            due.is("count(" + far + ")", x.count(far), OUTSIDE);
            due.is("fits(0, 0, " + far + ")", x.fits(0, 0, far), OUTSIDE);
            due.is("right(0, 1, " + far + ")", x.right(0, 1, far), OUTSIDE);
            due.is("fewest(0, " + far + ")", x.fewest(0, far), OUTSIDE);
            due.is("course(0, " + far + ", 0)", x.course(0, far, 0), OUTSIDE);
            due.is("base(" + far + ")", x.base(far), OUTSIDE);
            due.is("rest(0, " + far + ")", x.rest(0, far), OUTSIDE);
            due.is("about(0, " + far + ")", x.about(0, far), OUTSIDE);
            due.is("next(0, " + far + ")", x.next(0, far), OUTSIDE);
        }
    }

    @Says(promise = 0, words = "NOT (not now, as told)")
    static void notNowMayBeLater(Due due) {
        FirstReader x = due.reader(BEHIND);
        due.is("take(0, 1)", x.take(0, 1), NOT);
        x.take(0, 0);
        due.is("take(0, 1), later", x.take(0, 1), 1);
        due.is("goBack(0)", x.goBack(0), NOT);
        x.keep(0);
        due.is("goBack(0), later", x.goBack(0), 1);
    }

    // ---- what is refused

    @Says(promise = 0, words = "What is refused changes nothing.")
    static void aFeedOutsideChangesNothing(Due due) {
        FirstReader x = new FirstReader();
        x.feed(2, 'a' << 8 | 'b');
        x.feed(0, 'c');
        x.feed(9, 'c');
        due.is("count(4)", x.count(4), 2);
    }

    @Says(promise = 0, words = "What is refused changes nothing.")
    static void aFeedThatIsTooMuchChangesNothing(Due due) {
        FirstReader x = new FirstReader();
        Due.feed(x, " ".repeat(587) + "lesson");
        due.is("feed(8)", x.feed(8, 0x7878787878787878L), FULL);
        due.is("count(4)", x.count(4), 593);
        due.is("feed(7)", x.feed(7, 0x3B202020202020L), 600);
        due.is("primer()", x.primer(), 1);
    }

    @Says(promise = 0, words = "What is refused changes nothing.")
    static void aBaseOutsideChangesNothing(Due due) {
        FirstReader x = new FirstReader();
        x.base(0);
        x.base(31);
        due.is("count(5)", x.count(5), 3);
    }

    @Says(promise = 0, words = "What is refused changes nothing.")
    static void aLessonNotTakenChangesNothing(Due due) {
        FirstReader x = due.reader(BEHIND);
        x.take(0, 1);
        x.take(0, 2);
        x.take(3, 0);
        due.row("about 0", 0, what -> x.about(0, what), 0, 0, 0, 0);
        due.is("span(0, true, 0)", x.span(0, true, 0), 0);
    }

    @Says(promise = 0, words = "What is refused changes nothing.")
    static void aPageNotReadChangesNothing(Due due) {
        FirstReader x = due.reader(ONE);
        x.read(3, 0);
        x.read(0, 1);
        for (int q = 0; q < 3; q++) {
            due.is("about(" + q + ", 3)", x.about(q, 3), 0);
        }
    }

    @Says(promise = 0, words = "What is refused changes nothing.")
    static void aRestOutsideChangesNothing(Due due) {
        FirstReader x = new FirstReader();
        x.rest(0, 5);
        x.rest(0, 0);
        x.rest(0, -1);
        x.rest(0, 1000);
        due.is("about(0, 0)", x.about(0, 0), 5);
    }

    @Says(promise = 0, words = "What is refused changes nothing.")
    static void anImageThatThereIsNotIsNotKept(Due due) {
        FirstReader x = new FirstReader();
        x.keep(2);
        x.keep(-1);
        due.is("goBack(0)", x.goBack(0), NOT);
        due.is("goBack(1)", x.goBack(1), NOT);
    }

    @Says(promise = 0, words = "What is refused changes nothing.")
    static void goingBackInVainChangesNothing(Due due) {
        FirstReader x = due.reader(ONE);
        x.base(8);
        x.take(0, 0);
        x.rest(0, 2);
        x.goBack(0);
        x.goBack(2);
        due.row("about 0", 0, what -> x.about(0, what), 2, 1, 1, 0);
        due.is("count(5)", x.count(5), 8);
    }

    @Says(promise = 0, words = "What is refused changes nothing.")
    static void refusedQuestionsChangeNothing(Due due) {
        FirstReader x = due.reader("word a 1;word b 1;page a b;page b;lesson sight 0;lesson after 0 sight 1;");
        due.is("course(0, 0, NONE)", x.course(0, 0, NONE), 3);
        x.course(2, 0, NONE);
        x.course(0, 17, NONE);
        x.reads(2);
        x.fewest(0, 17);
        due.is("course(0, 0, 1)", x.course(0, 0, 1), 1);
        due.is("reads(1)", x.reads(1), 1);
    }
}
