/** Promises 1 to 9, sentence by sentence. */
public final class PrimerEdgesTest {
    private static final int NONE = FirstReader.NONE, UNKNOWN = FirstReader.UNKNOWN,
        OUTSIDE = FirstReader.OUTSIDE, NOT = FirstReader.NOT, FULL = FirstReader.FULL;
    private static final String ONE = "sign a 1;word a 1;lesson signs 0 sight 0;page a;";

    public static void main(String[] args) throws Exception {
        Edges.run(PrimerEdgesTest.class);
    }

    private static FirstReader filledWith(int bytes) {
        FirstReader x = new FirstReader();
        Due.feed(x, " ".repeat(bytes));
        return x;
    }

    private static int primerOf(FirstReader x, String text) {
        Due.feed(x, text);
        return x.primer();
    }

    // ---- 1 a new object

    @Says(promise = 1, words = "THE PRIMER is empty;")
    static void aNewObjectHasAnEmptyPrimer(Due due) {
        FirstReader x = new FirstReader();
        due.row("count", 0, x::count, 0, 0, 0, 0, 0);
        due.is("sign(0, 0)", x.sign(0, 0), UNKNOWN);
        due.is("word(0, 0)", x.word(0, 0), UNKNOWN);
        due.is("lesson(0, 0)", x.lesson(0, 0), UNKNOWN);
        due.is("page(0, NONE)", x.page(0, NONE), UNKNOWN);
    }

    @Says(promise = 1, words = "THE PRIMER is empty;")
    static void nothingIsTaughtByNoLessons(Due due) {
        FirstReader x = new FirstReader();
        due.is("taught(0)", x.taught(0), 0);
        due.is("reads(0)", x.reads(0), 0);
        due.is("forAll()", x.forAll(), NONE);
        due.is("next(0, 16)", x.next(0, 16), NONE);
    }

    @Says(promise = 1, words = "PUPILS hold nothing.")
    static void thePupilsOfANewObjectHoldNothing(Due due) {
        FirstReader x = new FirstReader();
        for (int q = 0; q < 3; q++) {
            int pupil = q;
            due.row("about " + q, 0, what -> x.about(pupil, what), 0, 0, 0, 0);
        }
    }

    // ---- 2 feed

    @Says(promise = 2, words = "Up to eight bytes (n 1 .. 8) of a long")
    static void oneByteToEight(Due due) {
        for (int n = 1; n <= 8; n++) {
            due.is("feed(" + n + ")", new FirstReader().feed(n, 0), n);
        }
    }

    @Says(promise = 2, words = "Up to eight bytes (n 1 .. 8) of a long")
    static void onlyTheLowBytesCome(Due due) {
        FirstReader x = new FirstReader();
        due.is("feed(7)", x.feed(7, 0xFF6C6573736F6E3BL), 7);
        due.is("feed(1)", x.feed(1, 0xFFFFFFFFFFFFFF20L), 8);
        due.is("primer()", x.primer(), 1);
    }

    @Says(promise = 2, words = "the highest of these first")
    static void theHighestByteFirst(Due due) {
        FirstReader x = new FirstReader();
        x.feed(8, 0x7369676E20626120L);
        x.feed(3, '2' << 16 | '9' << 8 | ';');
        due.is("primer()", x.primer(), 1);
        due.row("sign 0", 0, what -> x.sign(0, what), 2, 29, 0, 1, 0);
    }

    @Says(promise = 2, words = "the highest of these first")
    static void theHighestBitIsNoSign(Due due) {
        FirstReader x = new FirstReader();
        due.is("feed(8)", x.feed(8, Long.MIN_VALUE), 8);
        due.is("feed(8)", x.feed(8, -1L), 16);
        due.is("primer()", x.primer(), -11);
        due.is("fault()", x.fault(), 0);
    }

    @Says(promise = 2, words = "come behind THE TEXT: how many it has.")
    static void howManyTheTextHas(Due due) {
        FirstReader x = new FirstReader();
        due.is("feed(8)", x.feed(8, 0), 8);
        due.is("feed(1)", x.feed(1, 0), 9);
        due.is("feed(5)", x.feed(5, 0), 14);
        due.is("count(4)", x.count(4), 14);
    }

    @Says(promise = 2, words = "come behind THE TEXT: how many it has.")
    static void theTextBeginsAnewBehindAPrimer(Due due) {
        FirstReader x = due.reader(ONE);
        due.is("feed(3)", x.feed(3, 0), 3);
    }

    @Says(promise = 2, words = "OUTSIDE")
    static void noByteAndNineBytesAreOutside(Due due) {
        FirstReader x = new FirstReader();
        due.is("feed(0)", x.feed(0, 0), OUTSIDE);
        due.is("feed(-1)", x.feed(-1, 0), OUTSIDE);
        due.is("feed(9)", x.feed(9, 0), OUTSIDE);
        due.is("feed(min)", x.feed(Integer.MIN_VALUE, 0), OUTSIDE);
        due.is("feed(max)", x.feed(Integer.MAX_VALUE, 0), OUTSIDE);
        due.is("count(4)", x.count(4), 0);
    }

    @Says(promise = 2, words = "FULL (600).")
    static void the600thByteComes(Due due) {
        due.is("feed(8) behind 592", filledWith(592).feed(8, 0), 600);
        due.is("feed(1) behind 599", filledWith(599).feed(1, 0), 600);
    }

    @Says(promise = 2, words = "FULL (600).")
    static void the601stByteIsRefused(Due due) {
        due.is("feed(1) behind 600", filledWith(600).feed(1, 0), FULL);
        due.is("feed(8) behind 600", filledWith(600).feed(8, 0), FULL);
        due.is("feed(8) behind 593", filledWith(593).feed(8, 0), FULL);
        due.is("feed(2) behind 599", filledWith(599).feed(2, 0), FULL);
    }

    @Says(promise = 2, words = "FULL (600).")
    static void fewerBytesMayStillCome(Due due) {
        FirstReader x = filledWith(597);
        due.is("feed(4)", x.feed(4, 0), FULL);
        due.is("feed(3)", x.feed(3, 0), 600);
    }

    // ---- 3 primer

    @Says(promise = 3, words = "THE TEXT (it is empty then)")
    static void theTextIsEmptyBehindIt(Due due) {
        FirstReader x = due.reader(ONE);
        due.is("count(4)", x.count(4), 0);
    }

    @Says(promise = 3, words = "THE TEXT (it is empty then)")
    static void theTextIsEmptyBehindAFault(Due due) {
        FirstReader x = new FirstReader();
        due.is("primer()", primerOf(x, "sign"), -11);
        due.is("count(4)", x.count(4), 0);
        due.is("primer() of another", primerOf(x, "lesson;"), 1);
    }

    @Says(promise = 3, words = "THE TEXT (it is empty then)")
    static void aFullTextMakesRoom(Due due) {
        FirstReader x = filledWith(600);
        due.is("primer()", x.primer(), 0);
        due.is("feed(8)", x.feed(8, 0), 8);
    }

    @Says(promise = 3, words = "becomes THE PRIMER")
    static void nothingIsLeftOfTheOldPrimer(Due due) {
        FirstReader x = due.reader("sign ab 5 end;sign c 2;word ab 5;word b 7 8;lesson;lesson after 0 signs 0 sight 0,1;page b ab b;page ab;");
        due.is("primer()", primerOf(x, "sign a -;word c 3;lesson;page c;"), 4);
        due.row("count", 0, x::count, 1, 1, 1, 1, 0);
        due.row("sign 0", 0, what -> x.sign(0, what), 1, NONE, 0, 0, NONE, NONE, NONE);
        due.row("word 0", 0, what -> x.word(0, what), 1, 1, 2, NONE);
        due.row("its sounds", 10, what -> x.word(0, what), 3, NONE);
        due.row("lesson 0", 0, what -> x.lesson(0, what), 0, 0, 0);
        due.row("page 0", NONE, i -> x.page(0, i), 1, 0, NONE);
        due.is("fits(0, 0, 0)", x.fits(0, 0, 0), 0);
        due.is("reads(1)", x.reads(1), 0);
    }

    @Says(promise = 3, words = "becomes THE PRIMER")
    static void nothingIsLeftOfPrimersLongAgo(Due due) {
        FirstReader x = due.reader("sign ab 5 end;sign c 2;word ab 5;word b 7 8;lesson;lesson after 0 signs 0 sight 0,1;page b ab b;page ab;");
        due.is("reads(3)", x.reads(3), 3);
        for (int i = 0; i < 3; i++) {
            due.is("primer()", primerOf(x, "sign a 2;word a 2;word ba 2;lesson;lesson signs 0;page a;"), 6);
            due.row("count", 0, x::count, 1, 2, 2, 1, 0);
            due.row("sign 0", 0, what -> x.sign(0, what), 1, 2, 0, 0, NONE, NONE, NONE);
            due.row("word 0", 0, what -> x.word(0, what), 1, 1, 0, NONE);
            due.row("its sounds", 10, what -> x.word(0, what), 2, NONE);
            due.row("page 0", NONE, j -> x.page(0, j), 1, 0, NONE);
            due.row("reads", 0, x::reads, 0, 0, 1, 1);
        }
    }

    @Says(promise = 3, words = "becomes THE PRIMER")
    static void anEmptyTextIsAnEmptyPrimer(Due due) {
        FirstReader x = due.reader(ONE);
        due.is("primer()", x.primer(), 0);
        due.row("count", 0, x::count, 0, 0, 0, 0);
        due.is("fault()", x.fault(), NONE);
    }

    @Says(promise = 3, words = "becomes THE PRIMER")
    static void blanksAloneAreAnEmptyPrimer(Due due) {
        FirstReader x = due.reader(ONE);
        due.is("primer()", primerOf(x, "   "), 0);
        due.row("count", 0, x::count, 0, 0, 0, 0);
    }

    @Says(promise = 3, words = "becomes THE PRIMER")
    static void coursesAreThoseOfTheNewPrimer(Due due) {
        FirstReader x = due.reader(ONE);
        due.is("course(0, 0, NONE)", x.course(0, 0, NONE), 2);
        primerOf(x, "word a 1;page a;lesson;lesson sight 0;");
        due.is("course(0, 0, 0)", x.course(0, 0, 0), 1);
        primerOf(x, "word a 1;page a;");
        due.is("course(0, 0, NONE)", x.course(0, 0, NONE), NONE);
    }

    @Says(promise = 3, words = "(PUPILS begin anew;")
    static void pupilsBeginAnew(Due due) {
        FirstReader x = due.reader(ONE);
        for (int q = 0; q < 3; q++) {
            x.rest(q, 2);
            x.take(q, 0);
        }
        primerOf(x, ONE);
        for (int q = 0; q < 3; q++) {
            int pupil = q;
            due.row("about " + q, 0, what -> x.about(pupil, what), 0, 0, 0, 0);
            due.is("span of the sign", x.span(q, false, 0), 0);
            due.is("span of the word", x.span(q, true, 0), 0);
        }
    }

    @Says(promise = 3, words = "(PUPILS begin anew;")
    static void pupilsBeginAnewEvenByAnEmptyText(Due due) {
        FirstReader x = due.reader(ONE);
        x.rest(1, 7);
        x.primer();
        due.is("about(1, 0)", x.about(1, 0), 0);
    }

    @Says(promise = 3, words = "BASE stays;")
    static void baseStays(Due due) {
        FirstReader x = due.reader(ONE);
        x.base(30);
        primerOf(x, ONE);
        due.is("count(5)", x.count(5), 30);
        x.take(0, 0);
        due.is("span(0, false, 0)", x.span(0, false, 0), 30);
    }

    @Says(promise = 3, words = "IMAGES are gone)")
    static void imagesAreGone(Due due) {
        FirstReader x = due.reader(ONE);
        x.keep(0);
        x.keep(1);
        primerOf(x, ONE);
        due.is("goBack(0)", x.goBack(0), NOT);
        due.is("goBack(1)", x.goBack(1), NOT);
    }

    @Says(promise = 3, words = ": how many clauses;")
    static void howManyClauses(Due due) {
        due.is("none", new FirstReader().primer(), 0);
        due.is("one", primerOf(new FirstReader(), "lesson;"), 1);
        due.is("one of each", primerOf(new FirstReader(), ONE), 4);
    }

    @Says(promise = 3, words = ": how many clauses;")
    static void asManyClausesAsThereMayBe(Due due) {
        due.is("primer()", primerOf(new FirstReader(), Texts.full()), 24 + 20 + 7 + 8);
    }

    @Says(promise = 3, words = "-10 less the number of its FAULT")
    static void minusTenLessTheNumber(Due due) {
        due.is("1", primerOf(new FirstReader(), ";"), -11);
        due.is("2", primerOf(new FirstReader(), "sign a 30;"), -12);
        due.is("3", primerOf(new FirstReader(), "lesson;".repeat(8)), -13);
        due.is("4", primerOf(new FirstReader(), "sign abcde 1;"), -14);
        due.is("5", primerOf(new FirstReader(), "page a;"), -15);
        due.is("6", primerOf(new FirstReader(), "lesson;lesson after 0,0;"), -16);
    }

    @Says(promise = 3, words = "(it is as it was).")
    static void behindAFaultThePrimerIsAsItWas(Due due) {
        FirstReader x = due.reader("sign ab 5 end;word ab 5;lesson signs 0;page ab;");
        due.is("primer()", primerOf(x, "sign c 1;sign d 2;word c 1;word d 2;lesson;lesson;page c;page d;page e;"), -15);
        due.row("count", 0, x::count, 1, 1, 1, 1, 0);
        due.row("sign 0", 0, what -> x.sign(0, what), 2, 5, 2, 0, 1, NONE, NONE);
        due.row("word 0", 0, what -> x.word(0, what), 2, 1, 0, 1, NONE);
        due.is("word(0, 10)", x.word(0, 10), 5);
        due.is("lesson(0, 1)", x.lesson(0, 1), 1);
        due.is("page(0, NONE)", x.page(0, NONE), 1);
        due.is("reads(1)", x.reads(1), 1);
        due.is("course(0, 0, NONE)", x.course(0, 0, NONE), 2);
    }

    @Says(promise = 3, words = "(it is as it was).")
    static void behindAFaultPupilsBaseAndImagesAreAsTheyWere(Due due) {
        FirstReader x = due.reader(ONE);
        x.base(9);
        x.take(0, 0);
        x.keep(1);
        x.rest(0, 4);
        due.is("primer()", primerOf(x, "sign a 1"), -11);
        due.row("about 0", 0, what -> x.about(0, what), 4, 1, 1, 1);
        due.is("count(5)", x.count(5), 9);
        due.is("goBack(1)", x.goBack(1), 1);
        due.is("about(0, 0)", x.about(0, 0), 0);
    }

    @Says(promise = 3, words = "(it is as it was).")
    static void aPrimerThatWasEmptyStaysEmpty(Due due) {
        FirstReader x = new FirstReader();
        primerOf(x, "sign a 1;word a 1;lesson;page a;;");
        due.row("count", 0, x::count, 0, 0, 0, 0);
    }

    // ---- 4 fault

    @Says(promise = 4, words = "The byte of the FAULT")
    static void theFirstByteAndTheTextsLength(Due due) {
        FirstReader x = new FirstReader();
        primerOf(x, "!");
        due.is("fault() at the first", x.fault(), 0);
        primerOf(x, "lesson");
        due.is("fault() at the end", x.fault(), 6);
        primerOf(x, " ".repeat(599) + "x");
        due.is("fault() at the last byte of 600", x.fault(), 599);
    }

    @Says(promise = 4, words = "of the latest primer();")
    static void theLatestOnly(Due due) {
        FirstReader x = new FirstReader();
        primerOf(x, "sign a 30;");
        primerOf(x, "lesson !");
        due.is("fault()", x.fault(), 7);
        Due.feed(x, "lesson;");
        due.is("fault() behind a feed", x.fault(), 7);
        x.primer();
        due.is("fault() behind a good one", x.fault(), NONE);
    }

    @Says(promise = 4, words = "NONE.")
    static void noFault(Due due) {
        FirstReader x = new FirstReader();
        due.is("fault() of a new object", x.fault(), NONE);
        x.primer();
        due.is("fault() of an empty text", x.fault(), NONE);
        due.is("fault() of a good text", due.reader(ONE).fault(), NONE);
    }

    // ---- 5 sign

    @Says(promise = 5, words = "Of a SIGN: what = 0 letters")
    static void howManyLettersASignHas(Due due) {
        FirstReader x = due.reader("sign a 1;sign ab 1;sign abc 1;sign abcd 1;");
        due.row("letters", 0, k -> x.sign(k, 0), 1, 2, 3, 4);
    }

    @Says(promise = 5, words = "1 its SOUND (NONE)")
    static void aSignsSoundOrNone(Due due) {
        FirstReader x = due.reader("sign a 0;sign b 29;sign c -;");
        due.row("sound", 0, k -> x.sign(k, 1), 0, 29, NONE);
    }

    @Says(promise = 5, words = "2 1 'start', 2 'end', else 0")
    static void aSignsPlaceIsTold(Due due) {
        FirstReader x = due.reader("sign a 1 start;sign b 1 end;sign c 1;sign d - start;sign e -;");
        due.row("place", 0, k -> x.sign(k, 2), 1, 2, 0, 1, 0);
    }

    @Says(promise = 5, words = "3 to 6 its letters (0 .. 25; NONE).")
    static void aSignsLetters(Due due) {
        FirstReader x = due.reader("sign azby 1;sign z 1;");
        due.row("four letters", 3, what -> x.sign(0, what), 0, 25, 1, 24);
        due.row("one letter", 3, what -> x.sign(1, what), 25, NONE, NONE, NONE);
    }

    @Says(promise = 5, words = "UNKNOWN")
    static void aSignThatWasNotTold(Due due) {
        FirstReader x = due.reader("sign a 1;sign b 1;word a 1;word b 1;word c 1;");
        due.is("sign(1, 0)", x.sign(1, 0), 1);
        due.is("sign(2, 0)", x.sign(2, 0), UNKNOWN);
        due.is("sign(-1, 0)", x.sign(-1, 0), UNKNOWN);
        due.is("sign(0, 0) of a new object", new FirstReader().sign(0, 0), UNKNOWN);
    }

    @Says(promise = 5, words = "OUTSIDE.")
    static void whatOfASignIsOutside(Due due) {
        FirstReader x = due.reader("sign abcd 1;");
        due.is("sign(0, -1)", x.sign(0, -1), OUTSIDE);
        due.is("sign(0, 7)", x.sign(0, 7), OUTSIDE);
    }

    // ---- 6 word

    @Says(promise = 6, words = "Of a WORD: what = 0 letters")
    static void howManyLettersAWordHas(Due due) {
        FirstReader x = due.reader("word a 1 2 3;word abcdefgh 1;");
        due.row("letters", 0, w -> x.word(w, 0), 1, 8);
    }

    @Says(promise = 6, words = "1 SOUNDS")
    static void howManySoundsAWordHas(Due due) {
        FirstReader x = due.reader("word abc 1;word a 1 2 3 4 5 6 7 8;");
        due.row("sounds", 0, w -> x.word(w, 1), 1, 8);
    }

    @Says(promise = 6, words = "2 to 9 its letters (NONE)")
    static void aWordsLetters(Due due) {
        FirstReader x = due.reader("word azbycxdw 1;word z 1 2 3 4 5 6 7 8;");
        due.row("eight letters", 2, what -> x.word(0, what), 0, 25, 1, 24, 2, 23, 3, 22);
        due.row("one letter", 2, what -> x.word(1, what), 25, NONE, NONE, NONE, NONE, NONE, NONE, NONE);
    }

    @Says(promise = 6, words = "10 to 17 its SOUNDS (NONE).")
    static void aWordsSounds(Due due) {
        FirstReader x = due.reader("word a 29 0 28 1 27 2 26 3;word abcdefgh 0;");
        due.row("eight sounds", 10, what -> x.word(0, what), 29, 0, 28, 1, 27, 2, 26, 3);
        due.row("one sound", 10, what -> x.word(1, what), 0, NONE, NONE, NONE, NONE, NONE, NONE, NONE);
    }

    @Says(promise = 6, words = "UNKNOWN")
    static void aWordThatWasNotTold(Due due) {
        FirstReader x = due.reader("word a 1;word b 1;sign a 1;sign b 1;sign c 1;");
        due.is("word(1, 0)", x.word(1, 0), 1);
        due.is("word(2, 0)", x.word(2, 0), UNKNOWN);
        due.is("word(-1, 0)", x.word(-1, 0), UNKNOWN);
    }

    @Says(promise = 6, words = "OUTSIDE.")
    static void whatOfAWordIsOutside(Due due) {
        FirstReader x = due.reader("word abcdefgh 1 2 3 4 5 6 7 8;");
        due.is("word(0, -1)", x.word(0, -1), OUTSIDE);
        due.is("word(0, 18)", x.word(0, 18), OUTSIDE);
    }

    // ---- 7 lesson

    @Says(promise = 7, words = "Of a LESSON: what = 0 after, 1 SIGNS, 2 'sight' (SETS).")
    static void aLessonsSets(Due due) {
        FirstReader x = due.reader("sign a 1;sign b 1;sign c 1;word a 1;word b 1;lesson;lesson;lesson after 1 signs 2,0 sight 1;");
        due.row("lesson 2", 0, what -> x.lesson(2, what), 2, 5, 2);
    }

    @Says(promise = 7, words = "Of a LESSON: what = 0 after, 1 SIGNS, 2 'sight' (SETS).")
    static void aLessonWithoutListsHasEmptySets(Due due) {
        FirstReader x = due.reader("sign a 1;word a 1;lesson;lesson after 0;lesson signs 0;lesson sight 0;");
        due.row("lesson 0", 0, what -> x.lesson(0, what), 0, 0, 0);
        due.row("lesson 1", 0, what -> x.lesson(1, what), 1, 0, 0);
        due.row("lesson 2", 0, what -> x.lesson(2, what), 0, 1, 0);
        due.row("lesson 3", 0, what -> x.lesson(3, what), 0, 0, 1);
    }

    @Says(promise = 7, words = "Of a LESSON: what = 0 after, 1 SIGNS, 2 'sight' (SETS).")
    static void afterIsJustWhatWasTold(Due due) {
        FirstReader x = due.reader("lesson;lesson after 0;lesson after 1;");
        due.is("lesson(2, 0)", x.lesson(2, 0), 2);
    }

    @Says(promise = 7, words = "UNKNOWN")
    static void aLessonThatWasNotTold(Due due) {
        FirstReader x = due.reader("lesson;".repeat(7));
        due.is("lesson(6, 0)", x.lesson(6, 0), 0);
        due.is("lesson(7, 0)", x.lesson(7, 0), UNKNOWN);
        due.is("lesson(-1, 0)", x.lesson(-1, 0), UNKNOWN);
    }

    @Says(promise = 7, words = "OUTSIDE.")
    static void whatOfALessonIsOutside(Due due) {
        FirstReader x = due.reader("lesson;");
        due.is("lesson(0, -1)", x.lesson(0, -1), OUTSIDE);
        due.is("lesson(0, 3)", x.lesson(0, 3), OUTSIDE);
    }

    // ---- 8 page

    @Says(promise = 8, words = "Of a PAGE: i = NONE its WORDS (a SET)")
    static void aPagesWordsAsASet(Due due) {
        FirstReader x = due.reader("word a 1;word b 1;word c 1;page c a c c;page b;");
        due.is("page(0, NONE)", x.page(0, NONE), 5);
        due.is("page(1, NONE)", x.page(1, NONE), 2);
    }

    @Says(promise = 8, words = "else its i-th WORD (0 .. 15; NONE).")
    static void aPagesWordsOneByOne(Due due) {
        FirstReader x = due.reader("word a 1;word b 1;page b a b;page a a a a a a a a a a a a a a a b;");
        due.row("page 0", 0, i -> x.page(0, i), 1, 0, 1, NONE);
        due.is("page(0, 15)", x.page(0, 15), NONE);
        due.is("page(1, 14)", x.page(1, 14), 0);
        due.is("page(1, 15)", x.page(1, 15), 1);
    }

    @Says(promise = 8, words = "UNKNOWN")
    static void aPageThatWasNotTold(Due due) {
        FirstReader x = due.reader("word a 1;" + "page a;".repeat(8));
        due.is("page(7, 0)", x.page(7, 0), 0);
        due.is("page(8, 0)", x.page(8, 0), UNKNOWN);
        due.is("page(-1, NONE)", x.page(-1, NONE), UNKNOWN);
    }

    @Says(promise = 8, words = "OUTSIDE.")
    static void whatOfAPageIsOutside(Due due) {
        FirstReader x = due.reader("word a 1;page" + " a".repeat(16) + ";");
        due.is("page(0, -2)", x.page(0, -2), OUTSIDE);
        due.is("page(0, 16)", x.page(0, 16), OUTSIDE);
    }

    // ---- 9 count

    @Says(promise = 9, words = "How many: 0 SIGNS, 1 WORDS, 2 LESSONS, 3 PAGES, 4 bytes of THE TEXT, 5 BASE.")
    static void howManyOfEach(Due due) {
        FirstReader x = due.reader("sign a 1;sign b 1;sign c 1;sign d 1;word a 1;word b 1;word c 1;lesson;lesson;page a;");
        x.feed(5, 0);
        x.base(6);
        due.row("count", 0, x::count, 4, 3, 2, 1, 5, 6);
    }

    @Says(promise = 9, words = "How many: 0 SIGNS, 1 WORDS, 2 LESSONS, 3 PAGES, 4 bytes of THE TEXT, 5 BASE.")
    static void howManyOfEachAtMost(Due due) {
        FirstReader x = due.reader(Texts.full());
        Due.feed(x, " ".repeat(600));
        x.base(30);
        due.row("count", 0, x::count, 20, 24, 7, 8, 600, 30);
    }

    @Says(promise = 9, words = "OUTSIDE.")
    static void whatToCountIsOutside(Due due) {
        FirstReader x = new FirstReader();
        due.is("count(-1)", x.count(-1), OUTSIDE);
        due.is("count(6)", x.count(6), OUTSIDE);
    }
}
