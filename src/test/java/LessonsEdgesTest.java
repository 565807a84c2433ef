/** LESSON SETS of section 2, section 3 of the opening part, and promises 16 to 22, sentence by sentence. */
public final class LessonsEdgesTest {
    private static final int NONE = FirstReader.NONE, UNKNOWN = FirstReader.UNKNOWN,
        OUTSIDE = FirstReader.OUTSIDE, NOT = FirstReader.NOT;
    /** Lesson 2 behind 1 behind 0, lesson 3 behind none. */
    private static final String CHAIN = "sign a 1;word a 1;word b 2;page a b;lesson signs 0;lesson after 0;lesson after 1;lesson sight 1;";

    public static void main(String[] args) throws Exception {
        Edges.run(LessonsEdgesTest.class);
    }

    // ---- section 2: lesson sets

    @Says(promise = 0, words = "A LESSON SET holds all 'after' of each in it (CLOSED), else NOT.")
    static void aSetThatIsNotClosed(Due due) {
        FirstReader x = due.reader(CHAIN);
        due.row("taught", 0, x::taught, 0, 1, NOT, 1, NOT, NOT, NOT, 1, 0, 1, NOT, 1, NOT, NOT, NOT, 1);
    }

    @Says(promise = 0, words = "A LESSON SET holds all 'after' of each in it (CLOSED), else NOT.")
    static void theEmptySetIsClosed(Due due) {
        FirstReader x = due.reader(CHAIN);
        due.is("taught(0)", x.taught(0), 0);
        due.is("reads(0)", x.reads(0), 0);
        due.is("mixed(0, 0)", x.mixed(0, 0), 0);
        due.is("unknown(0, 0)", x.unknown(0, 0), 2);
    }

    @Says(promise = 0, words = "By it are taught all its SIGNS;")
    static void allSignsOfAllItsLessons(Due due) {
        FirstReader x = due.reader("sign a 1;sign b 1;sign c 1;lesson signs 0,1;lesson signs 1;lesson signs 2;");
        due.row("taught", 0, x::taught, 0, 3, 2, 3, 4, 7, 6, 7);
    }

    @Says(promise = 0, words = "READ is a WORD, if it is one of its 'sight' or ALOUD by its SIGNS is RIGHT.")
    static void readBySightOrAloud(Due due) {
        FirstReader x = due.reader("sign a 1;sign b 1;word a 1;word b 2;word ab 1 1;word c 1;lesson signs 0,1 sight 1;");
        due.is("a aloud, b by sight, ab aloud, c neither", x.reads(1), 7);
        due.is("without lessons", x.reads(0), 0);
    }

    @Says(promise = 0, words = "READ is a WORD, if it is one of its 'sight' or ALOUD by its SIGNS is RIGHT.")
    static void aWordThatComesOutWrongIsReadBySight(Due due) {
        FirstReader x = due.reader("sign a 2;word a 1;lesson signs 0;lesson sight 0;");
        due.row("reads", 0, x::reads, 0, 0, 1, 1);
    }

    @Says(promise = 0, words = "READ is a WORD, if it is one of its 'sight' or ALOUD by its SIGNS is RIGHT.")
    static void aSignMoreMayMakeAWordUnread(Due due) {
        FirstReader x = due.reader("sign a 1;sign b 2;sign ab 3;word ab 1 2;lesson signs 0,1;lesson signs 2;");
        due.row("reads", 0, x::reads, 0, 1, 0, 0);
    }

    @Says(promise = 0, words = "MIXED are two WORDS, if the one ALOUD, not RIGHT")
    static void aWordThatIsRightIsNotMixed(Due due) {
        FirstReader x = due.reader("sign a 1;word a 1;word b 1;lesson signs 0;");
        due.is("a is RIGHT, though b has its SOUNDS", x.mixed(0, 1), 0);
    }

    @Says(promise = 0, words = "comes to its end with the other one's SOUNDS.")
    static void aWordThatDoesNotComeToItsEndIsNotMixed(Due due) {
        FirstReader x = due.reader("sign a 1;word ab 2;word c 1;word a 2;lesson signs 0;");
        due.is("ab stays behind its end", x.mixed(0, 1), 0);
        due.is("a comes to it", x.mixed(2, 1), 2);
        due.is("c does not begin", x.mixed(1, 1), 0);
    }

    @Says(promise = 0, words = "comes to its end with the other one's SOUNDS.")
    static void allTheSoundsAndNoOthers(Due due) {
        FirstReader x = due.reader("sign a 1;sign b 2;word ab 9;word c 1;word d 1 2;word e 1 2 1;word f 2 1;lesson signs 0,1;");
        due.is("as d alone", x.mixed(0, 1), 4);
    }

    @Says(promise = 0, words = "comes to its end with the other one's SOUNDS.")
    static void noSoundsAreNoWords(Due due) {
        FirstReader x = due.reader("sign a -;word a 1;word b 1;lesson signs 0;");
        due.is("mixed(0, 1)", x.mixed(0, 1), 0);
    }

    // ---- section 3

    @Says(promise = 0, words = "UNKNOWN on a PAGE: how many unlike WORDS of it are not READ.")
    static void aWordThatComesAgainCountsOnce(Due due) {
        FirstReader x = due.reader("word a 1;word b 1;page a a b a b;page" + " b".repeat(16) + ";lesson sight 0;");
        due.is("two", x.unknown(0, 0), 2);
        due.is("one", x.unknown(0, 1), 1);
        due.is("sixteen times the same", x.unknown(1, 1), 1);
    }

    @Says(promise = 0, words = "UNKNOWN on a PAGE: how many unlike WORDS of it are not READ.")
    static void sixteenUnknownAndNone(Due due) {
        FirstReader x = due.reader(Texts.pageOfSixteen() + "lesson sight 0,1,2,3,4,5,6,7,8,9,10,11,12,13,14,15;");
        due.is("all", x.unknown(0, 0), 16);
        due.is("none", x.unknown(0, 1), 0);
    }

    @Says(promise = 0, words = "FEWEST LESSONS to a PAGE with u UNKNOWN at most")
    static void justSoManyUnknownAreNotTooMany(Due due) {
        FirstReader x = due.reader("word a 1;word b 1;word c 1;page a b c;lesson sight 2;lesson sight 0,1;");
        due.row("fewest", 0, u -> x.fewest(0, u), 3, 2, 1, 0);
    }

    @Says(promise = 0, words = "the CLOSED SET of the fewest LESSONS")
    static void theSetIsClosed(Due due) {
        FirstReader x = due.reader("word a 1;page a;lesson;lesson after 0;lesson after 1 sight 0;");
        due.is("fewest(0, 0)", x.fewest(0, 0), 7);
    }

    @Says(promise = 0, words = "the CLOSED SET of the fewest LESSONS")
    static void fewerLessonsAreAheadOfALesserSet(Due due) {
        FirstReader x = due.reader("word a 1;word b 1;page a b;lesson sight 0;lesson sight 1;lesson sight 0,1;");
        due.is("one lesson, not two", x.fewest(0, 0), 4);
    }

    @Says(promise = 0, words = "(of like ones the least).")
    static void ofLikeSetsTheLeast(Due due) {
        FirstReader x = due.reader("word a 1;page a;lesson;lesson sight 0;lesson sight 0;lesson;lesson sight 0;");
        due.is("fewest(0, 0)", x.fewest(0, 0), 2);
    }

    @Says(promise = 0, words = "(of like ones the least).")
    static void ofLikePairsTheLeastNumber(Due due) {
        FirstReader x = due.reader("word a 1;word b 1;page a b;lesson sight 0;lesson sight 1;lesson sight 0;lesson sight 1;");
        due.is("1 and 2 of 1, 2, 4, 8", x.fewest(0, 0), 3);
        FirstReader y = due.reader("word a 1;word b 1;page a b;lesson sight 0;lesson sight 0;lesson sight 1;lesson sight 1;");
        due.is("1 and 4", y.fewest(0, 0), 5);
        FirstReader z = due.reader("word a 1;word b 1;page a b;lesson;lesson after 0 sight 0,1;lesson sight 0;lesson sight 1;");
        due.is("1 and 2, not 4 and 8", z.fewest(0, 0), 3);
    }

    @Says(promise = 0, words = "A COURSE to a PAGE: STEP by STEP a LESSON (that keeps the SET CLOSED, once)")
    static void aLessonThatKeepsTheSetClosed(Due due) {
        FirstReader x = due.reader("word a 1;page a;lesson;lesson after 0 sight 0;");
        due.row("course", NONE, j -> x.course(0, 0, j), 3, 0, 1, 100, NONE);
    }

    @Says(promise = 0, words = "A COURSE to a PAGE: STEP by STEP a LESSON (that keeps the SET CLOSED, once)")
    static void allSevenLessonsOnce(Due due) {
        FirstReader x = due.reader("word a 1;page a;lesson;lesson after 0;lesson after 1;lesson after 2;lesson after 3;lesson after 4;"
            + "lesson after 5 sight 0;");
        due.row("course", NONE, j -> x.course(0, 0, j), 8, 0, 1, 2, 3, 4, 5, 6, 100, NONE);
    }

    @Says(promise = 0, words = "or a PAGE (once) that has u UNKNOWN at most:")
    static void aPageWithMoreUnknownIsNoStep(Due due) {
        FirstReader x = due.reader("word a 1;word b 1;word c 1;page a b c;page a b;");
        due.row("with two at most", NONE, j -> x.course(0, 2, j), 2, 101, 100, NONE);
        due.row("with one at most", NONE, j -> x.course(0, 1, j), NONE, NONE);
        due.row("with three at most", NONE, j -> x.course(0, 3, j), 1, 100, NONE);
    }

    @Says(promise = 0, words = "or a PAGE (once) that has u UNKNOWN at most:")
    static void allEightPagesOnce(Due due) {
        FirstReader x = due.reader("word a 1;word b 1;word c 1;word d 1;word e 1;word f 1;word g 1;word h 1;"
            + "page a;page a b;page b c;page c d;page d e;page e f;page f g;page g h b d f a c e;");
        due.row("course", NONE, j -> x.course(7, 1, j), 8, 100, 101, 102, 103, 104, 105, 106, 107, NONE);
    }

    @Says(promise = 0, words = "those not READ by the LESSONS so far and on no PAGE read so far;")
    static void aWordOfAPageReadSoFarIsKnown(Due due) {
        FirstReader x = due.reader("word a 1;word b 1;page a b;page a;lesson sight 0;");
        due.row("by the lesson, not by the page", NONE, j -> x.course(0, 1, j), 2, 0, 100, NONE);
        FirstReader y = due.reader("word a 1;word b 1;page a b;page a;");
        due.row("by the page", NONE, j -> y.course(0, 1, j), 2, 101, 100, NONE);
    }

    @Says(promise = 0, words = "those not READ by the LESSONS so far and on no PAGE read so far;")
    static void aWordOnceMetStaysKnownWhenALessonSpoilsIt(Due due) {
        FirstReader x = due.reader("sign a 1;sign ab 2;sign b 3;word ab 1 3;word aba 2 1;page ab;page ab aba;lesson signs 0,2;lesson signs 1;");
        due.is("no LESSON SET does", x.fewest(1, 0), NONE);
        due.row("course", NONE, j -> x.course(1, 0, j), 4, 0, 100, 1, 101, NONE);
    }

    @Says(promise = 0, words = "its last STEP is that PAGE.")
    static void aPageThatCanBeReadAtOnce(Due due) {
        FirstReader x = due.reader("word a 1;page a;page a;lesson sight 0;");
        due.row("course", NONE, j -> x.course(1, 1, j), 1, 101, NONE);
    }

    @Says(promise = 0, words = "THE SHORTEST COURSE: with the fewest STEPS;")
    static void fewerStepsAreAheadOfLesserNumbers(Due due) {
        FirstReader x = due.reader("word a 1;word b 1;page a b;page b;page a;lesson sight 0;lesson sight 1;lesson sight 0,1;");
        due.row("course", NONE, j -> x.course(0, 0, j), 2, 2, 100, NONE);
    }

    @Says(promise = 0, words = "THE SHORTEST COURSE: with the fewest STEPS;")
    static void aPageMaySpareLessons(Due due) {
        FirstReader x = due.reader("word a 1;word b 1;word c 1;page a b c;page b c;lesson sight 0;lesson sight 1;lesson sight 2;");
        due.row("course", NONE, j -> x.course(0, 1, j), 3, 0, 1, 100, NONE);
        due.row("with two at most", NONE, j -> x.course(0, 2, j), 2, 0, 100, NONE);
        FirstReader y = due.reader("word a 1;word b 1;word c 1;page a b c;page b c;lesson;lesson after 0 sight 1,2;");
        due.row("the page is a step, the lessons two", NONE, j -> y.course(0, 2, j), 2, 101, 100, NONE);
    }

    @Says(promise = 0, words = "of like ones the first: STEP by STEP, LESSONS by numbers ahead of PAGES by numbers.")
    static void lessonsAheadOfPages(Due due) {
        FirstReader x = due.reader("word a 1;word b 1;page a;page a b;lesson;lesson sight 0;lesson sight 0;");
        due.row("lesson 1 ahead of 2 and of page 0", NONE, j -> x.course(1, 1, j), 2, 1, 101, NONE);
    }

    @Says(promise = 0, words = "of like ones the first: STEP by STEP, LESSONS by numbers ahead of PAGES by numbers.")
    static void pagesByNumbers(Due due) {
        FirstReader x = due.reader("word a 1;word b 1;word c 1;page c;page b;page a b c;page b;");
        due.row("course", NONE, j -> x.course(2, 1, j), 3, 100, 101, 102, NONE);
    }

    @Says(promise = 0, words = "of like ones the first: STEP by STEP, LESSONS by numbers ahead of PAGES by numbers.")
    static void theFirstStepDecides(Due due) {
        FirstReader x = due.reader("word a 1;word b 1;word c 1;page a b c;page b;page c;lesson sight 0;lesson sight 1;");
        due.row("0 1 is ahead of 0 101", NONE, j -> x.course(0, 1, j), 3, 0, 1, 100, NONE);
        FirstReader y = due.reader("word a 1;word b 1;word c 1;page a b c;page b;lesson;lesson sight 0;lesson;");
        due.row("a lesson, then a page", NONE, j -> y.course(0, 1, j), 3, 1, 101, 100, NONE);
    }

    // ---- 16 taught

    @Says(promise = 16, words = "SIGNS that are taught by a SET of LESSONS: the SET.")
    static void taughtByNoneAndByAll(Due due) {
        FirstReader x = due.reader("sign a 1;sign b 1;lesson signs 1;lesson signs 0;");
        due.row("taught", 0, x::taught, 0, 2, 1, 3);
    }

    @Says(promise = 16, words = "UNKNOWN")
    static void taughtByLessonsThatThereAreNot(Due due) {
        FirstReader x = due.reader("sign a 1;lesson;");
        due.is("taught(2)", x.taught(2), UNKNOWN);
        due.is("taught(-1)", x.taught(-1), UNKNOWN);
        due.is("taught(128)", due.reader("lesson;".repeat(7)).taught(128), UNKNOWN);
    }

    @Says(promise = 16, words = "NOT.")
    static void taughtByASetThatIsNotClosed(Due due) {
        FirstReader x = due.reader(CHAIN);
        due.is("taught(2)", x.taught(2), NOT);
        due.is("taught(6)", x.taught(6), NOT);
        due.is("taught(7)", x.taught(7), 1);
    }

    // ---- 17 reads

    @Says(promise = 17, words = "WORDS that are READ by a SET of LESSONS: the SET.")
    static void readsByNoneAndByAll(Due due) {
        FirstReader x = due.reader("sign a 1;word b 1;word a 1;word c 1;lesson signs 0;lesson sight 2;");
        due.row("reads", 0, x::reads, 0, 2, 4, 6);
    }

    @Says(promise = 17, words = "WORDS that are READ by a SET of LESSONS: the SET.")
    static void allOf24WordsAreRead(Due due) {
        FirstReader x = due.reader("sign a 1;" + Texts.words(24)
            + "lesson signs 0 sight 1,2,3,4,5,6,7,8,9,10,11,12,13,14,15,16,17,18,19,20,21,22,23;");
        due.is("reads(1)", x.reads(1), (1 << 24) - 1);
    }

    @Says(promise = 17, words = "UNKNOWN")
    static void readsByLessonsThatThereAreNot(Due due) {
        FirstReader x = due.reader("word a 1;lesson;");
        due.is("reads(2)", x.reads(2), UNKNOWN);
        due.is("reads(-1)", x.reads(-1), UNKNOWN);
        due.is("reads(128)", due.reader("lesson;".repeat(7)).reads(128), UNKNOWN);
    }

    @Says(promise = 17, words = "NOT.")
    static void readsByASetThatIsNotClosed(Due due) {
        FirstReader x = due.reader(CHAIN);
        due.is("reads(2)", x.reads(2), NOT);
        due.is("reads(14)", x.reads(14), NOT);
        due.is("reads(15)", x.reads(15), 3);
    }

    // ---- 18 mixed

    @Says(promise = 18, words = "WORDS for which a WORD is taken by a SET of LESSONS: the SET.")
    static void aWordIsTakenForOthersButNotTheOtherWayRound(Due due) {
        FirstReader x = due.reader("sign a 1;word a 2;word b 1;word c 1;word d 2;lesson signs 0;lesson;");
        due.is("a is taken for b and c", x.mixed(0, 1), 6);
        due.is("b for none", x.mixed(1, 1), 0);
        due.is("without the lesson for none", x.mixed(0, 2), 0);
    }

    @Says(promise = 18, words = "WORDS for which a WORD is taken by a SET of LESSONS: the SET.")
    static void theLastWordMayBeTakenForTheFirst(Due due) {
        FirstReader x = due.reader("sign b 1;word a 1;word b 2;lesson signs 0;");
        due.is("mixed(1, 1)", x.mixed(1, 1), 1);
        due.is("mixed(0, 1)", x.mixed(0, 1), 0);
    }

    @Says(promise = 18, words = "WORDS for which a WORD is taken by a SET of LESSONS: the SET.")
    static void itGoesByWhatComesOutAloud(Due due) {
        FirstReader x = due.reader("sign a 1;word a 2;word b 1;lesson signs 0 sight 0;");
        due.is("a is READ by sight, but not RIGHT", x.mixed(0, 1), 2);
    }

    @Says(promise = 18, words = "WORDS for which a WORD is taken by a SET of LESSONS: the SET.")
    static void takenForAsManyAsThereMayBe(Due due) {
        StringBuilder text = new StringBuilder("sign a 1;word a 2;");
        for (char c = 'b'; c <= 'x'; c++) {
            text.append("word ").append(c).append(" 1;");
        }
        FirstReader x = due.reader(text + "lesson signs 0;");
        due.is("mixed(0, 1)", x.mixed(0, 1), (1 << 24) - 2);
    }

    @Says(promise = 18, words = "UNKNOWN")
    static void mixedOfAWordOrByLessonsThatThereAreNot(Due due) {
        FirstReader x = due.reader("word a 1;lesson;");
        due.is("mixed(1, 0)", x.mixed(1, 0), UNKNOWN);
        due.is("mixed(-1, 0)", x.mixed(-1, 0), UNKNOWN);
        due.is("mixed(0, 2)", x.mixed(0, 2), UNKNOWN);
        due.is("mixed(0, -1)", x.mixed(0, -1), UNKNOWN);
    }

    @Says(promise = 18, words = "NOT.")
    static void mixedByASetThatIsNotClosed(Due due) {
        FirstReader x = due.reader(CHAIN);
        due.is("mixed(0, 4)", x.mixed(0, 4), NOT);
        due.is("mixed(0, 7)", x.mixed(0, 7), 0);
    }

    // ---- 19 unknown

    @Says(promise = 19, words = "UNKNOWN on a PAGE by a SET of LESSONS.")
    static void unknownByNoneAndByAll(Due due) {
        FirstReader x = due.reader("word a 1;word b 1;word c 1;page a b b;page c;lesson sight 0;lesson sight 1;");
        due.row("page 0", 0, set -> x.unknown(0, set), 2, 1, 1, 0);
        due.row("page 1", 0, set -> x.unknown(1, set), 1, 1, 1, 1);
    }

    @Says(promise = 19, words = "UNKNOWN, NOT.")
    static void unknownOnAPageOrByLessonsThatThereAreNot(Due due) {
        FirstReader x = due.reader("word a 1;page a;lesson;");
        due.is("unknown(1, 0)", x.unknown(1, 0), UNKNOWN);
        due.is("unknown(-1, 0)", x.unknown(-1, 0), UNKNOWN);
        due.is("unknown(0, 2)", x.unknown(0, 2), UNKNOWN);
        due.is("unknown(0, -1)", x.unknown(0, -1), UNKNOWN);
    }

    @Says(promise = 19, words = "NOT.")
    static void unknownByASetThatIsNotClosed(Due due) {
        FirstReader x = due.reader(CHAIN);
        due.is("unknown(0, 5)", x.unknown(0, 5), NOT);
        due.is("unknown(0, 3)", x.unknown(0, 3), 1);
    }

    // ---- 20 fewest

    @Says(promise = 20, words = "FEWEST LESSONS: the SET;")
    static void theEmptySetMayDo(Due due) {
        FirstReader x = due.reader("word a 1;page a;lesson sight 0;");
        due.is("fewest(0, 1)", x.fewest(0, 1), 0);
        due.is("fewest(0, 0)", x.fewest(0, 0), 1);
    }

    @Says(promise = 20, words = "FEWEST LESSONS: the SET;")
    static void allSevenMayBeNeeded(Due due) {
        FirstReader x = due.reader("word a 1;page a;lesson;lesson;lesson;lesson;lesson;lesson;lesson after 0,1,2,3,4,5 sight 0;");
        due.is("fewest(0, 0)", x.fewest(0, 0), 127);
    }

    @Says(promise = 20, words = "FEWEST LESSONS: the SET;")
    static void aPrimerWithoutLessonsHasTheEmptySetAlone(Due due) {
        FirstReader x = due.reader("word a 1;page a;");
        due.is("fewest(0, 0)", x.fewest(0, 0), NONE);
        due.is("fewest(0, 1)", x.fewest(0, 1), 0);
    }

    @Says(promise = 20, words = "NONE. UNKNOWN")
    static void noSetDoes(Due due) {
        FirstReader x = due.reader("word a 1;word b 1;page a b;lesson sight 0;");
        due.is("fewest(0, 0)", x.fewest(0, 0), NONE);
        due.is("fewest(0, 1)", x.fewest(0, 1), 1);
    }

    @Says(promise = 20, words = "UNKNOWN")
    static void fewestToAPageThatThereIsNot(Due due) {
        FirstReader x = due.reader("word a 1;" + "page a;".repeat(8));
        due.is("fewest(7, 1)", x.fewest(7, 1), 0);
        due.is("fewest(8, 1)", x.fewest(8, 1), UNKNOWN);
        due.is("fewest(-1, 1)", x.fewest(-1, 1), UNKNOWN);
    }

    @Says(promise = 20, words = "OUTSIDE (u 0 .. 16).")
    static void fewestWithUOutside(Due due) {
        FirstReader x = due.reader(Texts.pageOfSixteen());
        due.is("fewest(0, -1)", x.fewest(0, -1), OUTSIDE);
        due.is("fewest(0, 0)", x.fewest(0, 0), NONE);
        due.is("fewest(0, 15)", x.fewest(0, 15), NONE);
        due.is("fewest(0, 16)", x.fewest(0, 16), 0);
        due.is("fewest(0, 17)", x.fewest(0, 17), OUTSIDE);
    }

    // ---- 21 course

    @Says(promise = 21, words = "THE SHORTEST COURSE: j = NONE how many STEPS")
    static void howManySteps(Due due) {
        FirstReader x = due.reader("word a 1;word b 1;page a b;lesson sight 0;lesson after 0 sight 1;");
        due.row("course", 0, u -> x.course(0, u, NONE), 3, 2, 1);
    }

    @Says(promise = 21, words = "THE SHORTEST COURSE: j = NONE how many STEPS")
    static void asManyStepsAsThereMayBe(Due due) {
        FirstReader x = due.reader("word a 1;word b 1;word c 1;word d 1;word e 1;word f 1;word g 1;word h 1;word y 1;word z 1;"
            + "lesson;lesson after 0;lesson after 1;lesson after 2;lesson after 3;lesson after 4;lesson after 5 sight 0,8;"
            + "page a b c d e f g h y z;page y a b;page y b c;page y c d;page y d e;page y e f;page y f g;page y g h;");
        due.row("course", NONE, j -> x.course(0, 1, j), 15, 0, 1, 2, 3, 4, 5, 6, 101, 102, 103, 104, 105, 106, 107, 100, NONE);
    }

    @Says(promise = 21, words = "THE SHORTEST COURSE: j = NONE how many STEPS")
    static void allLessonsAndAllPagesInAnyOrder(Due due) {
        FirstReader x = due.reader(Texts.words(15) + "page a b c d e f g h i j k l m n o;page h;page i;page j;page k;page l;page m;page n;"
            + "lesson sight 0;lesson sight 1;lesson sight 2;lesson sight 3;lesson sight 4;lesson sight 5;lesson sight 6;");
        due.row("course", NONE, j -> x.course(0, 1, j), 15, 0, 1, 2, 3, 4, 5, 6, 101, 102, 103, 104, 105, 106, 107, 100, NONE);
    }

    @Says(promise = 21, words = "else STEP j (a LESSON's number, 100 and a PAGE's; NONE);")
    static void theStepsOneByOne(Due due) {
        FirstReader x = due.reader("word a 1;word b 1;page a b;page b;lesson;lesson;lesson after 0,1 sight 0;");
        due.row("course", -2, j -> x.course(0, 0, j), NONE, NONE);
        due.row("course", -2, j -> x.course(0, 1, j), NONE, 2, 101, 100, NONE);
        due.is("far behind", x.course(0, 1, Integer.MAX_VALUE), NONE);
        due.is("far ahead", x.course(0, 1, Integer.MIN_VALUE), NONE);
    }

    @Says(promise = 21, words = "NONE: there is no COURSE.")
    static void thereIsNoCourse(Due due) {
        FirstReader x = due.reader("word a 1;word b 1;page a b;lesson sight 0;");
        due.row("course", NONE, j -> x.course(0, 0, j), NONE, NONE, NONE, NONE);
    }

    @Says(promise = 21, words = "NONE: there is no COURSE.")
    static void noneOfAllOrdersIsACourse(Due due) {
        FirstReader x = due.reader("word a 1;word b 1;word c 1;word d 1;word e 1;word f 1;word g 1;word y 1;word z 1;"
            + "page y z;page a;page b;page c;page d;page e;page f;page g;" + "lesson;".repeat(7));
        due.is("seven lessons and seven pages lead nowhere", x.course(0, 1, NONE), NONE);
        due.is("at once", x.course(0, 2, NONE), 1);
    }

    @Says(promise = 21, words = "THE SHORTEST COURSE: j = NONE how many STEPS")
    static void eachPageAndEachUHasACourseOfItsOwn(Due due) {
        FirstReader x = due.reader("word a 1;word b 1;page a b;page b;lesson sight 0;lesson after 0 sight 1;");
        for (int i = 0; i < 2; i++) {
            due.row("page 0 with none", NONE, j -> x.course(0, 0, j), 3, 0, 1, 100, NONE);
            due.row("page 1 with none", NONE, j -> x.course(1, 0, j), 3, 0, 1, 101, NONE);
            due.row("page 1 with one", NONE, j -> x.course(1, 1, j), 1, 101, NONE);
            due.row("page 0 with one", NONE, j -> x.course(0, 1, j), 2, 0, 100, NONE);
        }
    }

    @Says(promise = 21, words = "UNKNOWN")
    static void courseToAPageThatThereIsNot(Due due) {
        FirstReader x = due.reader("word a 1;" + "page a;".repeat(8));
        due.is("course(7, 1, 0)", x.course(7, 1, 0), 107);
        due.is("course(8, 1, 0)", x.course(8, 1, 0), UNKNOWN);
        due.is("course(-1, 1, NONE)", x.course(-1, 1, NONE), UNKNOWN);
    }

    @Says(promise = 21, words = "OUTSIDE.")
    static void courseWithUOutside(Due due) {
        FirstReader x = due.reader(Texts.pageOfSixteen());
        due.is("course(0, -1, NONE)", x.course(0, -1, NONE), OUTSIDE);
        due.is("course(0, 15, NONE)", x.course(0, 15, NONE), NONE);
        due.is("course(0, 16, NONE)", x.course(0, 16, NONE), 1);
        due.is("course(0, 17, NONE)", x.course(0, 17, NONE), OUTSIDE);
    }

    // ---- 22 hangs

    @Says(promise = 22, words = "LESSONS without which a WORD is not READ, though with all LESSONS it is: the SET")
    static void aWordHangsOnItsLessons(Due due) {
        FirstReader x = due.reader("sign a 1;sign b 2;word ab 1 2;word c 3;lesson signs 0;lesson signs 1;lesson sight 1;");
        due.is("hangs(0)", x.hangs(0), 3);
        due.is("hangs(1)", x.hangs(1), 4);
    }

    @Says(promise = 22, words = "LESSONS without which a WORD is not READ, though with all LESSONS it is: the SET")
    static void aWordTaughtTwiceHangsOnNone(Due due) {
        FirstReader x = due.reader("word a 1;lesson sight 0;lesson sight 0;");
        due.is("hangs(0)", x.hangs(0), 0);
    }

    @Says(promise = 22, words = "LESSONS without which a WORD is not READ, though with all LESSONS it is: the SET")
    static void aWordMayHangOnAllSeven(Due due) {
        FirstReader x = due.reader("word a 1;lesson;lesson;lesson;lesson;lesson;lesson;lesson after 0,1,2,3,4,5 sight 0;");
        due.is("hangs(0)", x.hangs(0), 127);
    }

    @Says(promise = 22, words = "(each alone left out, with all that come behind it);")
    static void allThatComeBehindItAreLeftOutToo(Due due) {
        FirstReader x = due.reader("word a 1;lesson;lesson after 0;lesson;lesson after 1,2 sight 0;");
        due.is("hangs(0)", x.hangs(0), 15);
    }

    @Says(promise = 22, words = "(each alone left out, with all that come behind it);")
    static void whatComesBehindOthersStays(Due due) {
        FirstReader x = due.reader("sign a 1;sign ab 3;sign b 2;word ab 1 2;lesson signs 0,2;lesson after 0 signs 1;lesson after 1 sight 0;");
        due.is("without 1 and 2 it comes out aloud, without 2 alone it does not", x.hangs(0), 5);
    }

    @Says(promise = 22, words = "NONE: it is not READ with all.")
    static void notReadWithAll(Due due) {
        FirstReader x = due.reader("sign a 1;sign ab 3;sign b 2;word ab 1 2;word c 1;lesson signs 0,2;lesson signs 1;");
        due.is("read by lesson 0, but not with all", x.hangs(0), NONE);
        due.is("never read", x.hangs(1), NONE);
        due.is("without any lessons", due.reader("word a 1;").hangs(0), NONE);
    }

    @Says(promise = 22, words = "UNKNOWN.")
    static void hangsOfAWordThatThereIsNot(Due due) {
        FirstReader x = due.reader("word a 1;lesson sight 0;lesson;");
        due.is("hangs(1)", x.hangs(1), UNKNOWN);
        due.is("hangs(-1)", x.hangs(-1), UNKNOWN);
    }
}
