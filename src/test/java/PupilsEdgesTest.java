/** Section 4 of the opening part, and promises 23 to 33, sentence by sentence. */
public final class PupilsEdgesTest {
    private static final int NONE = FirstReader.NONE, UNKNOWN = FirstReader.UNKNOWN,
        OUTSIDE = FirstReader.OUTSIDE, NOT = FirstReader.NOT;
    /** One of each; the lesson teaches the sign. */
    private static final String ONE = "sign a 1;word a 1;lesson signs 0;page a;";
    private static final String CHAIN = "word a 1;page a;lesson;lesson after 0;lesson after 1 sight 0;";

    public static void main(String[] args) throws Exception {
        Edges.run(PupilsEdgesTest.class);
    }

    private static void restTo(FirstReader x, int q, int day) {
        for (int i = 0; i < 12 && x.about(q, 0) < day; i++) {
            x.rest(q, Math.min(999, day - x.about(q, 0)));
        }
    }

    // ---- section 4: what pupils have

    @Says(promise = 0, words = "PUPILS (3)")
    static void threePupilsEachAlone(Due due) {
        FirstReader x = due.reader(ONE);
        x.rest(0, 1);
        x.rest(1, 2);
        x.take(2, 0);
        due.row("days", 0, q -> x.about(q, 0), 1, 2, 0, UNKNOWN);
        due.row("lessons", 0, q -> x.about(q, 1), 0, 0, 1, UNKNOWN);
        due.is("about(-1, 0)", x.about(-1, 0), UNKNOWN);
    }

    @Says(promise = 0, words = "have a DAY (0 .. 9999; 0 at first)")
    static void theFirstDayAndTheLast(Due due) {
        FirstReader x = new FirstReader();
        due.is("at first", x.about(0, 0), 0);
        restTo(x, 0, 9998);
        due.is("rest(0, 1)", x.rest(0, 1), 9999);
        due.is("rest(0, 1), once more", x.rest(0, 1), OUTSIDE);
        due.is("the DAY", x.about(0, 0), 9999);
    }

    @Says(promise = 0, words = "LESSONS taken, and HOLD SIGNS and WORDS: each has a SPAN and the DAY on which it was used last;")
    static void signsAndWordsHaveSpansOfTheirOwn(Due due) {
        FirstReader x = due.reader("sign a 1;sign b 1;word a 1;word b 1;lesson signs 0 sight 1;lesson signs 0;");
        x.take(0, 0);
        x.rest(0, 1);
        x.take(0, 1);
        due.row("signs", 0, k -> x.span(0, false, k), 6, 0);
        due.row("words", 0, w -> x.span(0, true, w), 0, 3);
    }

    @Says(promise = 0, words = "it is HELD, if the DAY is no more than SPAN behind that.")
    static void heldOnTheLastDayOfItsSpanAndNoLonger(Due due) {
        FirstReader x = due.reader("sign a 1;word b 1;lesson signs 0 sight 0;");
        x.take(0, 0);
        x.rest(0, 3);
        due.row("three days behind", 2, what -> x.about(0, what), 1, 1);
        x.rest(0, 1);
        due.row("four days behind", 2, what -> x.about(0, what), 0, 0);
    }

    @Says(promise = 0, words = "it is HELD, if the DAY is no more than SPAN behind that.")
    static void whatWasNeverUsedIsNotHeldOnTheFirstDay(Due due) {
        FirstReader x = due.reader(ONE);
        due.row("about 0", 2, what -> x.about(0, what), 0, 0);
    }

    @Says(promise = 0, words = "BASE (1 .. 30; 3 at first) is the first SPAN.")
    static void theFirstSpanIsBase(Due due) {
        for (int base : new int[] {1, 30}) {
            FirstReader x = due.reader(ONE);
            due.is("3 at first", x.base(base), 3);
            x.take(0, 0);
            due.is("span", x.span(0, false, 0), base);
            x.rest(0, base);
            due.is("held", x.about(0, 2), 1);
            x.rest(0, 1);
            due.is("not held", x.about(0, 2), 0);
        }
    }

    @Says(promise = 0, words = "BASE (1 .. 30; 3 at first) is the first SPAN.")
    static void anotherBaseLeavesSpansAsTheyAre(Due due) {
        FirstReader x = due.reader(ONE);
        x.take(0, 0);
        x.base(10);
        due.is("span", x.span(0, false, 0), 3);
        x.rest(0, 1);
        x.take(0, 0);
        due.is("twice its own", x.span(0, false, 0), 6);
    }

    // ---- section 4: lessons and pages

    @Says(promise = 0, words = "A LESSON (CLOSED with those taken;")
    static void aLessonNeedsAllAheadOfIt(Due due) {
        FirstReader x = due.reader("lesson;lesson;lesson after 0,1;");
        x.take(0, 0);
        due.is("one is left", x.take(0, 2), NOT);
        x.take(0, 1);
        due.is("none is left", x.take(0, 2), 0);
        due.is("another pupil", x.take(1, 2), NOT);
    }

    @Says(promise = 0, words = "taken again as often as one likes)")
    static void aLessonMayBeTakenAgain(Due due) {
        FirstReader x = due.reader(ONE);
        due.is("first", x.take(0, 0), 1);
        for (int i = 0; i < 20; i++) {
            due.is("again", x.take(0, 0), 0);
        }
        due.is("about(0, 1)", x.about(0, 1), 1);
        due.is("span, once a DAY", x.span(0, false, 0), 3);
    }

    @Says(promise = 0, words = ": its SIGNS and its 'sight' WORDS are USED.")
    static void aLessonUsesItsOwnAlone(Due due) {
        FirstReader x = due.reader("sign a 1;sign b 1;word a 1;word b 1;lesson signs 0 sight 1;lesson signs 1 sight 0;");
        x.take(0, 0);
        due.row("signs", 0, k -> x.span(0, false, k), 3, 0);
        due.row("words", 0, w -> x.span(0, true, w), 0, 3);
    }

    @Says(promise = 0, words = ": its SIGNS and its 'sight' WORDS are USED.")
    static void aLessonThatTeachesNothing(Due due) {
        FirstReader x = due.reader("sign a 1;word a 1;lesson;");
        due.is("take(0, 0)", x.take(0, 0), 0);
        due.row("about 0", 0, what -> x.about(0, what), 0, 1, 0, 0);
    }

    @Says(promise = 0, words = "READING a PAGE: each unlike WORD of it, in order of WORDS:")
    static void aWordThatComesAgainIsReadOnce(Due due) {
        FirstReader x = due.reader("word a 1;word b 1;page b a b a a b;");
        due.is("read(0, 0)", x.read(0, 0), 2);
        due.row("words", 0, w -> x.span(0, true, w), 3, 3);
    }

    @Says(promise = 0, words = "it is READ, if it is HELD, or ALOUD by HELD SIGNS is RIGHT;")
    static void readBecauseItIsHeld(Due due) {
        FirstReader x = due.reader("sign b 1;word a 1;page a;lesson sight 0;");
        x.take(0, 0);
        x.rest(0, 3);
        due.is("held", x.read(0, 0), 0);
    }

    @Says(promise = 0, words = "it is READ, if it is HELD, or ALOUD by HELD SIGNS is RIGHT;")
    static void notReadOnceItIsNotHeld(Due due) {
        FirstReader x = due.reader("word a 1;page a;lesson sight 0;");
        x.take(0, 0);
        x.rest(0, 4);
        due.is("not held", x.read(0, 0), 1);
    }

    @Says(promise = 0, words = "it is READ, if it is HELD, or ALOUD by HELD SIGNS is RIGHT;")
    static void aloudBySignsThatAreStillHeld(Due due) {
        FirstReader x = due.reader("sign a 1;sign ab 3;sign b 2;word ab 1 2;page ab;lesson signs 1;lesson signs 0,2;");
        x.take(0, 0);
        x.rest(0, 3);
        x.take(0, 1);
        due.is("ab 3 is still held", x.meets(0, 0), 1);
        x.rest(0, 1);
        due.is("ab 3 is forgotten", x.read(0, 0), 0);
    }

    @Says(promise = 0, words = "all by what was HELD as the PAGE began.")
    static void whatIsUsedOnThePageHelpsNoWordOfIt(Due due) {
        FirstReader x = due.reader("sign a 1;sign b 2;word a 1;word ab 1 2;word b 2;page a ab b;lesson signs 0;lesson signs 1;");
        x.take(0, 1);
        x.rest(0, 1);
        x.take(0, 0);
        x.rest(0, 3);
        due.is("b is forgotten, and stays so for all of the page", x.read(0, 0), 2);
        due.is("a was used", x.span(0, false, 0), 6);
        due.is("b was not", x.span(0, false, 1), 3);
        due.is("SIGNS HELD", x.about(0, 2), 1);
    }

    @Says(promise = 0, words = "all by what was HELD as the PAGE began.")
    static void aWordOfThePageIsNoHelpForItself(Due due) {
        FirstReader x = due.reader("word a 1;page a a;");
        due.is("read(0, 0)", x.read(0, 0), 1);
        due.is("read(0, 0), again", x.read(0, 0), 0);
    }

    @Says(promise = 0, words = "SIGNS that came out in a WORD that was READ ALOUD (not HELD) are USED")
    static void signsOfAWordThatWasReadAloudAreUsed(Due due) {
        FirstReader x = due.reader("sign a 1;sign b 2;sign c 3;word ab 1 2;page ab;lesson signs 0,1,2;");
        x.take(0, 0);
        x.rest(0, 1);
        x.read(0, 0);
        due.row("a and b, not c", 0, k -> x.span(0, false, k), 6, 6, 3);
    }

    @Says(promise = 0, words = "SIGNS that came out in a WORD that was READ ALOUD (not HELD) are USED")
    static void signsOfAllWordsThatWereReadAloudAreUsed(Due due) {
        FirstReader x = due.reader("sign a 1;sign b 2;sign c 3;sign d 4;word b 2;word d 4;page d b;lesson signs 0,1,2,3;");
        x.take(0, 0);
        x.rest(0, 1);
        x.read(0, 0);
        due.row("b and d", 0, k -> x.span(0, false, k), 3, 6, 3, 6);
    }

    @Says(promise = 0, words = "SIGNS that came out in a WORD that was READ ALOUD (not HELD) are USED")
    static void signsOfAWordThatWasToldAreNotThoseOfTheNext(Due due) {
        FirstReader x = due.reader("sign a 1;sign b 2;word a 9;word b 2;page a b;lesson signs 0,1;");
        x.take(0, 0);
        x.rest(0, 1);
        due.is("a was told", x.read(0, 0), 1);
        due.row("b alone", 0, k -> x.span(0, false, k), 3, 6);
    }

    @Says(promise = 0, words = "SIGNS that came out in a WORD that was READ ALOUD (not HELD) are USED")
    static void signsThatSayNothingComeOutToo(Due due) {
        FirstReader x = due.reader("sign a 1;sign e - end;word ae 1;page ae;lesson signs 0,1;");
        x.take(0, 0);
        x.rest(0, 1);
        x.read(0, 0);
        due.row("a and e", 0, k -> x.span(0, false, k), 6, 6);
    }

    @Says(promise = 0, words = "SIGNS that came out in a WORD that was READ ALOUD (not HELD) are USED")
    static void signsOfAHeldWordAreNotUsed(Due due) {
        FirstReader x = due.reader("sign a 1;word a 1;page a;lesson signs 0 sight 0;");
        x.take(0, 0);
        x.rest(0, 1);
        x.read(0, 0);
        due.is("the sign", x.span(0, false, 0), 3);
        due.is("the word", x.span(0, true, 0), 6);
    }

    @Says(promise = 0, words = "SIGNS that came out in a WORD that was READ ALOUD (not HELD) are USED")
    static void signsOfAWordThatCameOutWrongAreNotUsed(Due due) {
        FirstReader x = due.reader("sign a 1;word a 2;word ab 1;page a ab;lesson signs 0;");
        x.take(0, 0);
        x.rest(0, 1);
        due.is("read(0, 0)", x.read(0, 0), 2);
        due.is("the sign", x.span(0, false, 0), 3);
    }

    @Says(promise = 0, words = "and each WORD of the PAGE is USED, READ or told.")
    static void wordsReadAndWordsToldAreUsed(Due due) {
        FirstReader x = due.reader("sign a 1;word a 1;word b 1;word c 1;page a b;lesson signs 0;");
        x.take(0, 0);
        x.read(0, 0);
        due.row("a was read, b told, c is not on it", 0, w -> x.span(0, true, w), 3, 3, 0);
    }

    // ---- section 4: used

    @Says(promise = 0, words = "USED: what was never used gets SPAN BASE;")
    static void whatWasNeverUsedGetsBase(Due due) {
        FirstReader x = due.reader(ONE);
        x.rest(0, 999);
        x.base(7);
        x.take(0, 0);
        due.is("span", x.span(0, false, 0), 7);
    }

    @Says(promise = 0, words = "what is HELD and was used on an earlier DAY gets twice its SPAN (999 at most);")
    static void twiceItsSpan(Due due) {
        FirstReader x = due.reader(ONE);
        x.take(0, 0);
        x.rest(0, 1);
        x.take(0, 0);
        due.is("a day later", x.span(0, false, 0), 6);
        x.rest(0, 6);
        x.take(0, 0);
        due.is("on its last day", x.span(0, false, 0), 12);
    }

    @Says(promise = 0, words = "what is HELD and was used on an earlier DAY gets twice its SPAN (999 at most);")
    static void atMost999(Due due) {
        FirstReader x = due.reader(ONE);
        x.base(30);
        x.take(0, 0);
        long[] spans = {60, 120, 240, 480, 960, 999, 999};
        for (long span : spans) {
            x.rest(0, 1);
            x.take(0, 0);
            due.is("span", x.span(0, false, 0), span);
        }
        x.rest(0, 999);
        due.is("999 days behind", x.about(0, 2), 1);
        x.rest(0, 1);
        due.is("1000 days behind", x.about(0, 2), 0);
    }

    @Says(promise = 0, words = "what is not HELD any more gets SPAN BASE again;")
    static void whatIsForgottenGetsBaseAgain(Due due) {
        FirstReader x = due.reader(ONE);
        x.take(0, 0);
        x.rest(0, 1);
        x.take(0, 0);
        x.rest(0, 7);
        due.is("not held, but its SPAN is still told", x.span(0, false, 0), 6);
        x.take(0, 0);
        due.is("BASE", x.span(0, false, 0), 3);
        x.rest(0, 4);
        x.base(1);
        x.take(0, 0);
        due.is("BASE as it is now", x.span(0, false, 0), 1);
    }

    @Says(promise = 0, words = "all: used last on this DAY")
    static void usedLastOnThisDay(Due due) {
        FirstReader x = due.reader(ONE);
        x.take(0, 0);
        x.rest(0, 3);
        x.take(0, 0);
        x.rest(0, 6);
        due.is("six days behind the second time", x.about(0, 2), 1);
        x.rest(0, 1);
        due.is("seven", x.about(0, 2), 0);
        x.take(0, 0);
        due.is("held anew", x.about(0, 2), 1);
    }

    @Says(promise = 0, words = "(once a DAY: what was used on this DAY already stays as it is).")
    static void onceADay(Due due) {
        FirstReader x = due.reader("sign a 1;word a 1;page a;lesson signs 0 sight 0;");
        x.take(0, 0);
        x.base(9);
        x.take(0, 0);
        x.read(0, 0);
        due.is("the sign on its first DAY", x.span(0, false, 0), 3);
        due.is("the word on its first DAY", x.span(0, true, 0), 3);
        x.rest(0, 1);
        x.read(0, 0);
        x.take(0, 0);
        x.read(0, 0);
        due.is("the word on its second DAY", x.span(0, true, 0), 6);
        due.is("the sign on its second DAY", x.span(0, false, 0), 6);
    }

    @Says(promise = 0, words = "(once a DAY: what was used on this DAY already stays as it is).")
    static void onceADayWithTheLeastSpan(Due due) {
        FirstReader x = due.reader(ONE);
        x.base(1);
        x.take(0, 0);
        x.take(0, 0);
        due.is("span", x.span(0, false, 0), 1);
        x.rest(0, 1);
        x.take(0, 0);
        due.is("span, a DAY later", x.span(0, false, 0), 2);
    }

    // ---- section 4: next, for all, images

    @Says(promise = 0, words = "NEXT for a PUPIL with u UNKNOWN: the first of: a LESSON taken of which some SIGN or 'sight' WORD is not HELD (the least);")
    static void aLessonThatIsForgottenComesFirst(Due due) {
        FirstReader x = due.reader("sign a 1;word a 1;word b 1;page b;lesson;lesson sight 0;lesson signs 0;lesson signs 0;");
        x.take(0, 3);
        x.take(0, 2);
        x.take(0, 1);
        x.rest(0, 4);
        due.is("the word of 1", x.next(0, 16), 1);
        x.take(0, 1);
        due.is("the sign of 2", x.next(0, 16), 2);
        x.take(0, 2);
        due.is("3 teaches the same", x.next(0, 16), 100);
    }

    @Says(promise = 0, words = "a LESSON taken of which some SIGN or 'sight' WORD is not HELD (the least);")
    static void theFirstLessonMayBeTheOne(Due due) {
        FirstReader x = due.reader("sign a 1;word b 1;page b;lesson signs 0;lesson sight 0;");
        x.take(0, 0);
        x.take(0, 1);
        due.is("all is held", x.next(0, 16), NONE);
        x.rest(0, 4);
        due.is("none is", x.next(0, 16), 0);
    }

    @Says(promise = 0, words = "a LESSON taken of which some SIGN or 'sight' WORD is not HELD (the least);")
    static void aLessonNotTakenIsNotAheadOfAPage(Due due) {
        FirstReader x = due.reader("sign a 1;word b 1;page b;lesson signs 0;lesson sight 0;");
        due.is("none is taken", x.next(0, 1), 100);
        x.take(0, 0);
        due.is("0 is held", x.next(0, 1), 100);
        x.rest(0, 4);
        due.is("0 is forgotten, 1 was never taken", x.next(0, 1), 0);
    }

    @Says(promise = 0, words = "a PAGE with u UNKNOWN at most and one at least by what is HELD (the most UNKNOWN, of like ones the least);")
    static void aPageWithTheMostUnknownComesSecond(Due due) {
        FirstReader x = due.reader("word a 1;word b 1;word c 1;page a;page b;page a b;page b c;page a b c;lesson;");
        due.row("next", 0, u -> x.next(0, u), 0, 100, 102, 104, 104);
    }

    @Says(promise = 0, words = "a PAGE with u UNKNOWN at most and one at least by what is HELD (the most UNKNOWN, of like ones the least);")
    static void aPageWithNoneUnknownIsNotNext(Due due) {
        FirstReader x = due.reader("word a 1;word b 1;page a;page b;");
        x.read(0, 0);
        due.is("next(0, 16)", x.next(0, 16), 101);
        x.read(0, 1);
        due.is("all is held", x.next(0, 16), NONE);
    }

    @Says(promise = 0, words = "a LESSON not taken that may be (the least);")
    static void aLessonNotTakenComesThird(Due due) {
        FirstReader x = due.reader("lesson;lesson;lesson after 1;lesson;");
        x.take(0, 0);
        due.is("1 is the least", x.next(0, 0), 1);
        x.take(0, 3);
        x.take(0, 1);
        due.is("2 may be now", x.next(0, 0), 2);
        FirstReader y = due.reader("word a 1;lesson;lesson after 0;lesson;page a;");
        y.take(0, 2);
        due.is("1 may not be", y.next(0, 0), 0);
        due.is("the page is ahead", y.next(0, 1), 100);
    }

    @Says(promise = 0, words = "told as the LESSON's number, or 100 and the PAGE's; NONE.")
    static void theLastPageTheLastLessonAndNone(Due due) {
        FirstReader x = due.reader("word a 1;word b 1;" + "page a;".repeat(7) + "page b;" + "lesson;".repeat(7));
        x.read(0, 0);
        due.is("the last page", x.next(0, 1), 107);
        x.read(0, 7);
        for (int l = 0; l < 6; l++) {
            x.take(0, l);
        }
        due.is("the last lesson", x.next(0, 16), 6);
        x.take(0, 6);
        due.is("none", x.next(0, 16), NONE);
    }

    @Says(promise = 0, words = "FOR ALL: the PAGE with the least sum of UNKNOWN of all PUPILS by what they HOLD (of like ones the least).")
    static void theLeastSum(Due due) {
        FirstReader x = due.reader("word a 1;word b 1;word c 1;page a b;page b c;page b c;page c a;");
        due.is("all alike", x.forAll(), 0);
        x.read(2, 1);
        due.is("the third pupil counts", x.forAll(), 1);
        x.rest(2, 4);
        due.is("until it forgets", x.forAll(), 0);
    }

    @Says(promise = 0, words = "FOR ALL: the PAGE with the least sum of UNKNOWN of all PUPILS by what they HOLD (of like ones the least).")
    static void theSumIsOfAllThree(Due due) {
        FirstReader x = due.reader("word a 1;word b 1;word c 1;word d 1;page a b;page c d;page a;page c;");
        x.read(0, 1);
        x.read(1, 1);
        x.read(2, 0);
        due.is("4 2 2 1", x.forAll(), 3);
        FirstReader y = due.reader("word a 1;word b 1;word c 1;page a;page b c;");
        y.read(0, 1);
        y.read(1, 1);
        due.is("3 and 2, though one pupil has 1 and 2", y.forAll(), 1);
    }

    @Says(promise = 0, words = "IMAGES 0, 1 keep PUPILS and BASE.")
    static void imagesKeepAllOfThePupils(Due due) {
        FirstReader x = due.reader("sign a 1;word a 1;lesson signs 0 sight 0;");
        x.base(5);
        x.take(2, 0);
        x.rest(2, 1);
        x.keep(1);
        x.take(2, 0);
        x.rest(2, 2);
        x.base(6);
        x.take(0, 0);
        x.goBack(1);
        due.row("about 2", 0, what -> x.about(2, what), 1, 1, 1, 1);
        due.row("about 0", 0, what -> x.about(0, what), 0, 0, 0, 0);
        due.is("span of the sign", x.span(2, false, 0), 5);
        due.is("span of the word", x.span(2, true, 0), 5);
        due.is("BASE", x.count(5), 5);
        x.rest(2, 4);
        due.is("the DAY on which it was used last", x.about(2, 2), 1);
        x.rest(2, 1);
        due.is("one too many", x.about(2, 2), 0);
    }

    @Says(promise = 0, words = "IMAGES 0, 1 keep PUPILS and BASE.")
    static void imagesDoNotKeepTheText(Due due) {
        FirstReader x = due.reader(ONE);
        x.keep(0);
        x.feed(3, 0);
        x.goBack(0);
        due.is("count(4)", x.count(4), 3);
    }

    // ---- 23 base

    @Says(promise = 23, words = "BASE becomes v: what it was.")
    static void whatBaseWas(Due due) {
        FirstReader x = new FirstReader();
        due.is("base(1)", x.base(1), 3);
        due.is("base(30)", x.base(30), 1);
        due.is("base(30)", x.base(30), 30);
        due.is("count(5)", x.count(5), 30);
    }

    @Says(promise = 23, words = "OUTSIDE.")
    static void baseOutside(Due due) {
        FirstReader x = new FirstReader();
        due.is("base(0)", x.base(0), OUTSIDE);
        due.is("base(31)", x.base(31), OUTSIDE);
        due.is("base(-1)", x.base(-1), OUTSIDE);
        due.is("count(5)", x.count(5), 3);
    }

    // ---- 24 take

    @Says(promise = 24, words = "A PUPIL takes a LESSON: how many SIGNS and WORDS of it were not HELD.")
    static void howManyWereNotHeld(Due due) {
        FirstReader x = due.reader("sign a 1;sign b 1;word a 1;word b 1;word c 1;lesson signs 0,1 sight 0,2;lesson signs 1 sight 1;");
        due.is("two signs and two words", x.take(0, 0), 4);
        due.is("all are held", x.take(0, 0), 0);
        due.is("one sign is held", x.take(0, 1), 1);
        x.rest(0, 4);
        due.is("all are forgotten", x.take(0, 0), 4);
    }

    @Says(promise = 24, words = "A PUPIL takes a LESSON: how many SIGNS and WORDS of it were not HELD.")
    static void asManyAsThereMayBe(Due due) {
        FirstReader x = due.reader(Texts.lessonOfAll());
        due.is("take(0, 0)", x.take(0, 0), 44);
        due.is("about(0, 2)", x.about(0, 2), (1 << 20) - 1);
        due.is("about(0, 3)", x.about(0, 3), (1 << 24) - 1);
    }

    @Says(promise = 24, words = "UNKNOWN")
    static void takeOfAPupilOrLessonThatThereIsNot(Due due) {
        FirstReader x = due.reader(ONE);
        due.is("take(2, 0)", x.take(2, 0), 1);
        due.is("take(3, 0)", x.take(3, 0), UNKNOWN);
        due.is("take(-1, 0)", x.take(-1, 0), UNKNOWN);
        due.is("take(0, 1)", x.take(0, 1), UNKNOWN);
        due.is("take(0, -1)", x.take(0, -1), UNKNOWN);
    }

    @Says(promise = 24, words = "NOT: it would not be CLOSED.")
    static void takeThatWouldNotBeClosed(Due due) {
        FirstReader x = due.reader(CHAIN);
        due.is("take(0, 2)", x.take(0, 2), NOT);
        due.is("take(0, 1)", x.take(0, 1), NOT);
        x.take(0, 0);
        due.is("take(0, 2)", x.take(0, 2), NOT);
        x.take(0, 1);
        due.is("take(0, 2)", x.take(0, 2), 1);
    }

    @Says(promise = 24, words = "NOT: it would not be CLOSED.")
    static void lessonsStayTakenWhenTheirSignsAreForgotten(Due due) {
        FirstReader x = due.reader("sign a 1;lesson signs 0;lesson after 0;");
        x.take(0, 0);
        x.rest(0, 900);
        due.is("take(0, 1)", x.take(0, 1), 0);
    }

    // ---- 25 read

    @Says(promise = 25, words = "A PUPIL READS a PAGE: how many were UNKNOWN.")
    static void howManyWereUnknown(Due due) {
        FirstReader x = due.reader("sign a 1;word a 1;word b 1;word c 1;page a b c b;lesson signs 0 sight 2;");
        due.is("all", x.read(1, 0), 3);
        x.take(0, 0);
        due.is("one", x.read(0, 0), 1);
        due.is("none", x.read(0, 0), 0);
    }

    @Says(promise = 25, words = "A PUPIL READS a PAGE: how many were UNKNOWN.")
    static void sixteenWereUnknown(Due due) {
        FirstReader x = due.reader(Texts.pageOfSixteen());
        due.is("read(0, 0)", x.read(0, 0), 16);
        due.is("about(0, 3)", x.about(0, 3), (1 << 16) - 1);
    }

    @Says(promise = 25, words = "UNKNOWN.")
    static void readOfAPupilOrPageThatThereIsNot(Due due) {
        FirstReader x = due.reader("word a 1;" + "page a;".repeat(8));
        due.is("read(2, 7)", x.read(2, 7), 1);
        due.is("read(3, 7)", x.read(3, 7), UNKNOWN);
        due.is("read(-1, 7)", x.read(-1, 7), UNKNOWN);
        due.is("read(2, 8)", x.read(2, 8), UNKNOWN);
        due.is("read(2, -1)", x.read(2, -1), UNKNOWN);
    }

    // ---- 26 rest

    @Says(promise = 26, words = "n DAYS (1 .. 999) go by for a PUPIL: the DAY.")
    static void oneDayTo999(Due due) {
        FirstReader x = new FirstReader();
        due.is("rest(0, 1)", x.rest(0, 1), 1);
        due.is("rest(0, 999)", x.rest(0, 999), 1000);
        due.is("another pupil", x.rest(1, 999), 999);
        due.is("the third", x.about(2, 0), 0);
    }

    @Says(promise = 26, words = "UNKNOWN")
    static void restOfAPupilThatThereIsNot(Due due) {
        FirstReader x = new FirstReader();
        due.is("rest(2, 1)", x.rest(2, 1), 1);
        due.is("rest(3, 1)", x.rest(3, 1), UNKNOWN);
        due.is("rest(-1, 1)", x.rest(-1, 1), UNKNOWN);
    }

    @Says(promise = 26, words = "OUTSIDE (it would be above 9999, too).")
    static void noDayAnd1000DaysAreOutside(Due due) {
        FirstReader x = new FirstReader();
        due.is("rest(0, 0)", x.rest(0, 0), OUTSIDE);
        due.is("rest(0, -1)", x.rest(0, -1), OUTSIDE);
        due.is("rest(0, 1000)", x.rest(0, 1000), OUTSIDE);
        due.is("rest(0, max)", x.rest(0, Integer.MAX_VALUE), OUTSIDE);
        due.is("rest(0, min)", x.rest(0, Integer.MIN_VALUE), OUTSIDE);
    }

    @Says(promise = 26, words = "(it would be above 9999, too).")
    static void aDayAbove9999IsOutside(Due due) {
        FirstReader x = new FirstReader();
        restTo(x, 0, 9500);
        due.is("rest(0, 500)", x.rest(0, 500), OUTSIDE);
        due.is("the DAY", x.about(0, 0), 9500);
        due.is("rest(0, 499)", x.rest(0, 499), 9999);
        due.is("rest(0, 1)", x.rest(0, 1), OUTSIDE);
    }

    // ---- 27 about

    @Says(promise = 27, words = "Of a PUPIL: what = 0 the DAY, 1 LESSONS taken, 2 SIGNS HELD, 3 WORDS HELD (SETS).")
    static void aboutAPupil(Due due) {
        FirstReader x = due.reader("sign a 1;sign b 1;word a 1;word b 1;lesson signs 1;lesson;lesson sight 0,1;");
        x.take(1, 0);
        x.rest(1, 2);
        x.take(1, 2);
        due.row("two days behind", 0, what -> x.about(1, what), 2, 5, 2, 3);
        x.rest(1, 2);
        due.row("the sign is forgotten, the lesson stays taken", 0, what -> x.about(1, what), 4, 5, 0, 3);
    }

    @Says(promise = 27, words = "UNKNOWN")
    static void aboutAPupilThatThereIsNot(Due due) {
        FirstReader x = new FirstReader();
        due.is("about(2, 0)", x.about(2, 0), 0);
        due.is("about(3, 0)", x.about(3, 0), UNKNOWN);
        due.is("about(-1, 0)", x.about(-1, 0), UNKNOWN);
    }

    @Says(promise = 27, words = "OUTSIDE.")
    static void whatAboutAPupilIsOutside(Due due) {
        FirstReader x = new FirstReader();
        due.is("about(0, -1)", x.about(0, -1), OUTSIDE);
        due.is("about(0, 4)", x.about(0, 4), OUTSIDE);
    }

    // ---- 28 span

    @Says(promise = 28, words = "SPAN of a SIGN (ofWord = false), of a WORD;")
    static void spanOfASignAndOfAWord(Due due) {
        FirstReader x = due.reader("sign a 1;sign b 1;word a 1;word b 1;lesson signs 0;lesson sight 1;");
        x.base(4);
        x.take(0, 0);
        x.base(5);
        x.take(0, 1);
        due.row("signs", 0, k -> x.span(0, false, k), 4, 0);
        due.row("words", 0, w -> x.span(0, true, w), 0, 5);
    }

    @Says(promise = 28, words = "SPAN of a SIGN (ofWord = false), of a WORD;")
    static void spanOfTheLastSignAndTheLastWord(Due due) {
        FirstReader x = due.reader("sign a 1;".repeat(20) + Texts.words(24) + "lesson signs 19 sight 23;");
        x.take(0, 0);
        due.row("signs", 18, k -> x.span(0, false, k), 0, 3, UNKNOWN);
        due.row("words", 22, w -> x.span(0, true, w), 0, 3, UNKNOWN);
    }

    @Says(promise = 28, words = "0: never used.")
    static void neverUsed(Due due) {
        FirstReader x = due.reader(ONE);
        x.rest(0, 1);
        due.is("the sign", x.span(0, false, 0), 0);
        due.is("the word", x.span(0, true, 0), 0);
        x.take(0, 0);
        x.rest(0, 900);
        due.is("used once, though not HELD any more", x.span(0, false, 0), 3);
    }

    @Says(promise = 28, words = "UNKNOWN.")
    static void spanOfAPupilSignOrWordThatThereIsNot(Due due) {
        FirstReader x = due.reader("sign a 1;sign b 1;word a 1;");
        due.is("span(2, false, 1)", x.span(2, false, 1), 0);
        due.is("span(3, false, 1)", x.span(3, false, 1), UNKNOWN);
        due.is("span(-1, true, 0)", x.span(-1, true, 0), UNKNOWN);
        due.is("there is no word 1, though a sign", x.span(0, true, 1), UNKNOWN);
        due.is("span(0, false, 2)", x.span(0, false, 2), UNKNOWN);
        due.is("span(0, false, -1)", x.span(0, false, -1), UNKNOWN);
        due.is("span(0, true, -1)", x.span(0, true, -1), UNKNOWN);
        FirstReader y = due.reader("sign a 1;word a 1;word b 1;");
        due.is("there is no sign 1, though a word", y.span(0, false, 1), UNKNOWN);
        due.is("span(0, true, 1)", y.span(0, true, 1), 0);
    }

    // ---- 29 meets

    @Says(promise = 29, words = "UNKNOWN on a PAGE by what a PUPIL HOLDS.")
    static void unknownByWhatAPupilHolds(Due due) {
        FirstReader x = due.reader("sign a 1;word a 1;word b 1;word c 1;page a b c c;lesson signs 0 sight 1;");
        due.is("nothing", x.meets(0, 0), 3);
        x.take(0, 0);
        due.is("a aloud, b held", x.meets(0, 0), 1);
        x.rest(0, 3);
        due.is("on the last day", x.meets(0, 0), 1);
        x.rest(0, 1);
        due.is("all is forgotten", x.meets(0, 0), 3);
    }

    @Says(promise = 29, words = "UNKNOWN on a PAGE by what a PUPIL HOLDS.")
    static void meetingUsesNothing(Due due) {
        FirstReader x = due.reader(ONE);
        x.take(0, 0);
        x.rest(0, 1);
        due.is("meets(0, 0)", x.meets(0, 0), 0);
        due.is("the sign", x.span(0, false, 0), 3);
        due.is("the word", x.span(0, true, 0), 0);
    }

    @Says(promise = 29, words = "UNKNOWN on a PAGE by what a PUPIL HOLDS.")
    static void sixteenUnknown(Due due) {
        FirstReader x = due.reader(Texts.pageOfSixteen());
        due.is("all", x.meets(0, 0), 16);
        x.read(0, 0);
        due.is("none", x.meets(0, 0), 0);
        due.is("another pupil", x.meets(1, 0), 16);
    }

    @Says(promise = 29, words = "UNKNOWN.")
    static void meetsOfAPupilOrPageThatThereIsNot(Due due) {
        FirstReader x = due.reader("word a 1;" + "page a;".repeat(8));
        due.is("meets(2, 7)", x.meets(2, 7), 1);
        due.is("meets(3, 7)", x.meets(3, 7), UNKNOWN);
        due.is("meets(-1, 7)", x.meets(-1, 7), UNKNOWN);
        due.is("meets(2, 8)", x.meets(2, 8), UNKNOWN);
        due.is("meets(2, -1)", x.meets(2, -1), UNKNOWN);
    }

    // ---- 30 next

    @Says(promise = 30, words = "NEXT.")
    static void nextInAnEmptyPrimer(Due due) {
        FirstReader x = new FirstReader();
        due.row("next", 0, q -> x.next(q, 0), NONE, NONE, NONE);
    }

    @Says(promise = 30, words = "NEXT.")
    static void nextChangesNothing(Due due) {
        FirstReader x = due.reader(ONE);
        due.is("next(0, 0)", x.next(0, 0), 0);
        due.is("next(0, 0), again", x.next(0, 0), 0);
        due.row("about 0", 0, what -> x.about(0, what), 0, 0, 0, 0);
    }

    @Says(promise = 30, words = "UNKNOWN")
    static void nextOfAPupilThatThereIsNot(Due due) {
        FirstReader x = due.reader(ONE);
        due.is("next(2, 0)", x.next(2, 0), 0);
        due.is("next(3, 0)", x.next(3, 0), UNKNOWN);
        due.is("next(-1, 0)", x.next(-1, 0), UNKNOWN);
    }

    @Says(promise = 30, words = "OUTSIDE (u).")
    static void nextWithUOutside(Due due) {
        FirstReader x = due.reader(Texts.pageOfSixteen() + "lesson;");
        due.is("next(0, -1)", x.next(0, -1), OUTSIDE);
        due.is("next(0, 0)", x.next(0, 0), 0);
        due.is("next(0, 15)", x.next(0, 15), 0);
        due.is("next(0, 16)", x.next(0, 16), 100);
        due.is("next(0, 17)", x.next(0, 17), OUTSIDE);
    }

    // ---- 31 forAll

    @Says(promise = 31, words = "FOR ALL;")
    static void forAllOfOnePageAndOfEight(Due due) {
        FirstReader x = due.reader(Texts.pageOfSixteen());
        due.is("one page, 48 in all", x.forAll(), 0);
        FirstReader y = due.reader("word a 1;word b 1;word c 1;" + "page a b;".repeat(7) + "page c;");
        due.is("the last of eight", y.forAll(), 7);
    }

    @Says(promise = 31, words = "NONE: there are no PAGES.")
    static void forAllWithoutPages(Due due) {
        due.is("a new object", new FirstReader().forAll(), NONE);
        due.is("words alone", due.reader("word a 1;lesson sight 0;").forAll(), NONE);
        FirstReader x = due.reader(ONE);
        due.is("with a page", x.forAll(), 0);
        x.primer();
        due.is("they are gone", x.forAll(), NONE);
    }

    // ---- 32 keep

    @Says(promise = 32, words = "IMAGE i becomes what is so: 1.")
    static void anImageIsKeptAnew(Due due) {
        FirstReader x = new FirstReader();
        due.is("keep(0)", x.keep(0), 1);
        x.rest(0, 1);
        due.is("keep(1)", x.keep(1), 1);
        x.rest(0, 1);
        due.is("keep(0), again", x.keep(0), 1);
        x.rest(0, 1);
        x.goBack(1);
        due.is("image 1", x.about(0, 0), 1);
        x.goBack(0);
        due.is("image 0", x.about(0, 0), 2);
    }

    @Says(promise = 32, words = "IMAGE i becomes what is so: 1.")
    static void keepingChangesNothingElse(Due due) {
        FirstReader x = due.reader(ONE);
        x.base(4);
        x.take(0, 0);
        x.keep(0);
        due.row("about 0", 0, what -> x.about(0, what), 0, 1, 1, 0);
        due.is("count(5)", x.count(5), 4);
    }

    @Says(promise = 32, words = "UNKNOWN.")
    static void keepOfAnImageThatThereIsNot(Due due) {
        FirstReader x = new FirstReader();
        due.is("keep(-1)", x.keep(-1), UNKNOWN);
        due.is("keep(2)", x.keep(2), UNKNOWN);
    }

    // ---- 33 goBack

    @Says(promise = 33, words = "What is so becomes IMAGE i: 1.")
    static void goingBackAgainAndAgain(Due due) {
        FirstReader x = due.reader(ONE);
        x.keep(0);
        for (int i = 0; i < 3; i++) {
            x.take(0, 0);
            x.rest(0, 5);
            x.base(7);
            due.is("goBack(0)", x.goBack(0), 1);
            due.row("about 0", 0, what -> x.about(0, what), 0, 0, 0, 0);
            due.is("span", x.span(0, false, 0), 0);
            due.is("count(5)", x.count(5), 3);
        }
    }

    @Says(promise = 33, words = "What is so becomes IMAGE i: 1.")
    static void oneImageMayBeKeptFromTheOther(Due due) {
        FirstReader x = new FirstReader();
        x.rest(0, 4);
        x.keep(0);
        x.goBack(0);
        x.keep(1);
        x.rest(0, 1);
        x.keep(0);
        due.is("goBack(1)", x.goBack(1), 1);
        due.is("about(0, 0)", x.about(0, 0), 4);
        due.is("goBack(0)", x.goBack(0), 1);
        due.is("about(0, 0)", x.about(0, 0), 5);
    }

    @Says(promise = 33, words = "UNKNOWN")
    static void goBackToAnImageThatThereIsNot(Due due) {
        FirstReader x = new FirstReader();
        x.keep(0);
        x.keep(1);
        due.is("goBack(-1)", x.goBack(-1), UNKNOWN);
        due.is("goBack(2)", x.goBack(2), UNKNOWN);
    }

    @Says(promise = 33, words = "NOT: it was not kept.")
    static void goBackToAnImageThatWasNotKept(Due due) {
        FirstReader x = new FirstReader();
        due.is("goBack(0)", x.goBack(0), NOT);
        due.is("goBack(1)", x.goBack(1), NOT);
        x.keep(1);
        due.is("goBack(0), 1 was kept", x.goBack(0), NOT);
        due.is("goBack(1)", x.goBack(1), 1);
    }
}
