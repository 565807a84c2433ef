/** Promises 16 to 22: what lessons teach, what is read by them, and the way to a page. */
public final class LessonsTest {
    private static final int NONE = FirstReader.NONE, UNKNOWN = FirstReader.UNKNOWN,
        OUTSIDE = FirstReader.OUTSIDE, NOT = FirstReader.NOT;
    private static final Due due = new Due("LessonsTest");

    public static void main(String[] args) {
        taughtByClosedSets();
        readsBySightAndAloud();
        mixedGoesOneWay();
        mixedForgetsNoSight();
        unknownCountsUnlikeWords();
        fewestIsTheLeastOfTheFewest();
        fewestMayBeAll();
        fewestMayShunALesson();
        courseByLessonsAlone();
        courseThroughPages();
        courseTakesTheFirstOfLikeOnes();
        courseMayReadBeforeALessonSpoilsIt();
        courseOfAllSteps();
        courseThroughAllStates();
        courseIsNotMixedUpWithAnEarlierOne();
        hangsLeavesOutWhatComesBehind();
        setsAreRefused();
        due.end();
    }

    private static void taughtByClosedSets() {
        FirstReader x = due.reader("sign a 1;sign b 2;sign c 3;lesson signs 0,1;lesson signs 1,2;lesson after 0,1;lesson after 2 signs 0;", 7);
        due.row("taught", 0, x::taught, 0, 3, 6, 7, NOT, NOT, NOT, 7, NOT, NOT, NOT, NOT, NOT, NOT, NOT, 7, UNKNOWN);
        due.row("reads", 3, x::reads, 0, NOT, NOT, NOT, 0, NOT);
    }

    private static void readsBySightAndAloud() {
        FirstReader x = due.reader("sign a 1;sign b 2;sign ab 3;word ab 1 2;word ba 2 1;word c 4;word abc 3 4;"
            + "lesson signs 0,1;lesson sight 2;lesson after 0 signs 2 sight 3;lesson after 2 sight 0;", 11);
        due.is("reads(0)", x.reads(0), 0);
        due.is("reads(1)", x.reads(1), 3);
        due.is("reads(2)", x.reads(2), 4);
        due.is("reads(3)", x.reads(3), 7);
        due.is("a lesson makes a word worse", x.reads(5), 10);
        due.is("sight helps all the same", x.reads(13), 11);
        due.is("all", x.reads(15), 15);
    }

    private static void mixedGoesOneWay() {
        FirstReader x = due.reader("sign a 1;sign b 2;sign ab 3;word ab 1 2;word c 3;word d 3;word aba 3;word e 1 2;word ca 3;"
            + "lesson signs 0,1;lesson signs 2;lesson;", 12);
        due.is("ab comes out as c, d, aba, ca", x.mixed(0, 2), 2 + 4 + 8 + 32);
        due.is("ab is right", x.mixed(0, 1), 0);
        due.is("aba does not come to its end", x.mixed(3, 2), 0);
        due.is("aba comes out as 3 1", x.mixed(3, 3), 0);
        due.is("aba comes out as 1 2 1", x.mixed(3, 1), 0);
        due.is("c does not come out", x.mixed(1, 7), 0);
        due.is("none", x.mixed(0, 4), 0);
        FirstReader y = due.reader("sign a 1;word b 1;word a 2;lesson signs 0;", 4);
        due.is("a is taken for word 0", y.mixed(1, 1), 1);
        due.is("b is not for a", y.mixed(0, 1), 0);
    }

    private static void mixedForgetsNoSight() {
        FirstReader x = due.reader("sign a 1;word a 2;word b 1;lesson signs 0 sight 0;", 4);
        due.is("aloud is not right, though it is read by sight", x.mixed(0, 1), 2);
        due.is("reads(1)", x.reads(1), 1);
        FirstReader silent = due.reader("sign a -;word a 2;word b 1;lesson signs 0;", 4);
        due.is("no sounds are no word's", silent.mixed(0, 1), 0);
    }

    private static void unknownCountsUnlikeWords() {
        FirstReader x = due.reader("sign a 1;sign b 2;word a 1;word b 2;word c 3;page a b a c c b;page c;"
            + "lesson signs 0;lesson after 0 signs 1;lesson sight 2;", 10);
        due.row("unknown 0", 0, lessons -> x.unknown(0, lessons), 3, 2, NOT, 1, 2, 1, NOT, 0, UNKNOWN);
        due.row("unknown 1", 0, lessons -> x.unknown(1, lessons), 1, 1, NOT, 1, 0);
        due.is("unknown(2, 0)", x.unknown(2, 0), UNKNOWN);
        due.is("unknown(-1, 2)", x.unknown(-1, 2), UNKNOWN);
    }

    private static void fewestIsTheLeastOfTheFewest() {
        FirstReader x = due.reader("word a 1;word b 2;word c 3;word d 4;page a b c;page d;page a a b;"
            + "lesson sight 0;lesson after 0;lesson after 1 sight 1;lesson sight 1;lesson sight 0,2;lesson sight 2;", 13);
        due.row("fewest 0", -1, u -> x.fewest(0, u), OUTSIDE, 8 + 16, 16, 1, 0, 0);
        due.row("fewest 1", 0, u -> x.fewest(1, u), NONE, 0);
        due.row("fewest 2", 0, u -> x.fewest(2, u), 9, 1, 0);
        due.is("fewest(0, 16)", x.fewest(0, 16), 0);
        due.is("fewest(0, 17)", x.fewest(0, 17), OUTSIDE);
        due.is("fewest(3, 17)", x.fewest(3, 17), UNKNOWN);
        due.is("fewest(-1, 0)", x.fewest(-1, 0), UNKNOWN);
    }

    private static void fewestMayBeAll() {
        FirstReader x = due.reader("word a 1;word b 1;word c 1;word d 1;word e 1;word f 1;word g 1;page a b c d e f g;"
            + "lesson sight 0;lesson sight 1;lesson sight 2;lesson sight 3;lesson sight 4;lesson sight 5;lesson sight 6;", 15);
        due.row("fewest 0", 0, u -> x.fewest(0, u), 127, 63, 31, 15, 7, 3, 1, 0);
        due.is("course(0, 0)", x.course(0, 0, -1), 8);
    }

    private static void fewestMayShunALesson() {
        FirstReader x = due.reader("sign a 1;sign b 2;sign ab 3;word ab 1 2;word c 4;page ab c;"
            + "lesson signs 0;lesson signs 2 sight 1;lesson after 0 signs 1;lesson after 1,2 sight 0;", 10);
        due.is("all four", x.fewest(0, 0), 15);
        due.is("one: the word by sight", x.fewest(0, 1), 2);
    }

    private static void courseByLessonsAlone() {
        FirstReader x = due.reader("sign a 1;sign b 2;word ab 1 2;word c 3;page ab;page c;"
            + "lesson signs 1;lesson;lesson after 1 signs 0;", 9);
        due.row("course 0", -2, j -> x.course(0, 0, j), NONE, 4, 0, 1, 2, 100, NONE);
        due.row("there is none", -2, j -> x.course(1, 0, j), NONE, NONE, NONE, NONE);
        due.row("at once", -1, j -> x.course(1, 1, j), 1, 101, NONE);
        due.is("course(0, -1, 0)", x.course(0, -1, 0), OUTSIDE);
        due.is("course(0, 17, 0)", x.course(0, 17, 0), OUTSIDE);
        due.is("course(0, 16, -1)", x.course(0, 16, -1), 1);
        due.is("course(2, 17, 0)", x.course(2, 17, 0), UNKNOWN);
        due.is("course(-1, 0, 0)", x.course(-1, 0, 0), UNKNOWN);
        due.is("course(0, 0, max)", x.course(0, 0, Integer.MAX_VALUE), NONE);
        due.is("course(0, 0, min)", x.course(0, 0, Integer.MIN_VALUE), NONE);
    }

    private static void courseThroughPages() {
        FirstReader x = due.reader("word a 1;word b 2;word c 3;word d 4;page a b c d;page b c;page a;page c;page d c;"
            + "lesson sight 3;", 10);
        // with one unknown at most: c alone makes b the only unknown of page 1, and so on
        due.row("course 1", -1, j -> x.course(1, 1, j), 2, 103, 101, NONE);
        due.row("course 0", -1, j -> x.course(0, 1, j), 4, 0, 102, 103, 100, NONE);
        due.row("course 0 of two", -1, j -> x.course(0, 2, j), 2, 101, 100, NONE);
        due.row("course 0 of none", -1, j -> x.course(0, 0, j), NONE, NONE);
        due.row("course 4 of none", -1, j -> x.course(4, 0, j), NONE, NONE);
        due.row("course 4 of one", -1, j -> x.course(4, 1, j), 2, 0, 104);
    }

    private static void courseTakesTheFirstOfLikeOnes() {
        FirstReader x = due.reader("word a 1;word b 2;word c 3;page a b c;page b;page a;page c;"
            + "lesson;lesson sight 2;lesson after 0;lesson sight 2;", 11);
        due.row("a lesson is ahead of a page", -1, j -> x.course(0, 1, j), 3, 1, 101, 100, NONE);
        FirstReader y = due.reader("word a 1;word b 2;word c 3;page c;page b;page a;page a b c;", 7);
        due.row("pages by numbers", -1, j -> y.course(3, 1, j), 3, 100, 101, 103, NONE);
    }

    private static void courseMayReadBeforeALessonSpoilsIt() {
        FirstReader x = due.reader("sign a 1;sign b 2;sign ab 3;word ab 1 2;word abab 3 3;page ab;page ab abab;"
            + "lesson signs 0,1;lesson after 0 signs 2;", 9);
        due.is("no set of lessons does", x.fewest(1, 0), NONE);
        due.row("course 1", -1, j -> x.course(1, 0, j), 4, 0, 100, 1, 101, NONE);
    }

    private static void courseOfAllSteps() {
        FirstReader x = due.reader("word a 1;word b 2;word c 3;word d 4;word e 5;word f 6;word g 7;word h 8;"
            + "word i 1;word j 1;word k 1;word l 1;word m 1;word n 1;word o 1;word p 1;"
            + "page a b c d e f g h i j k l m n o p;"
            + "page i;page i j;page j k;page k l;page l m;page m n;page n o;"
            + "lesson sight 0;lesson sight 1;lesson sight 2;lesson sight 3;lesson sight 4;lesson sight 5;lesson sight 6,7;", 31);
        due.row("fifteen steps", -1, j -> x.course(0, 1, j), 15, 0, 1, 2, 3, 4, 5, 6,
            101, 102, 103, 104, 105, 106, 107, 100, NONE);
        due.is("none", x.course(0, 0, -1), NONE);
        due.row("fewer", -1, j -> x.course(0, 2, j), 11, 0, 1, 2, 3, 4, 5, 6, 102, 104, 106, 100, NONE);
    }

    private static void courseThroughAllStates() {
        // every state but those with page 0 comes up, and none of them leads to it
        FirstReader x = due.reader("word a 1;word b 1;word c 1;word d 1;word e 1;word f 1;word g 1;word y 1;word z 1;"
            + "page y z;page a;page b;page c;page d;page e;page f;page g;" + "lesson;".repeat(7), 24);
        due.is("none", x.course(0, 1, -1), NONE);
        due.is("at once", x.course(0, 2, 0), 100);
        due.is("course(7, 1, 0)", x.course(7, 1, 0), 107);
    }

    private static void courseIsNotMixedUpWithAnEarlierOne() {
        FirstReader x = due.reader("word a 1;word b 2;page a b;page b;lesson sight 0;lesson after 0 sight 1;", 6);
        due.is("course(0, 0)", x.course(0, 0, -1), 3);
        due.is("course(0, 1)", x.course(0, 1, -1), 2);
        due.is("course(1, 1)", x.course(1, 1, -1), 1);
        due.is("course(1, 0)", x.course(1, 0, -1), 3);
        due.is("course(0, 0)", x.course(0, 0, 2), 100);
        due.is("course(1, 0)", x.course(1, 0, 2), 101);
        due.is("course(1, 2)", x.course(1, 2, 0), 101);
        Due.feed(x, "word a 1;page a;page a;");
        due.is("primer()", x.primer(), 3);
        due.is("course of the new primer", x.course(1, 2, 0), 101);
        due.is("course of the new primer", x.course(1, 0, 0), NONE);
        Due.feed(x, "word a 1;page a;page a;lesson sight 0;");
        due.is("primer()", x.primer(), 4);
        due.is("course of the newest primer", x.course(1, 0, -1), 2);
    }

    private static void hangsLeavesOutWhatComesBehind() {
        FirstReader x = due.reader("sign a 1;sign b 2;sign ab 3;word a 1;word b 2;word ab 1 2;word c 4;word abc 3 4;"
            + "lesson signs 0;lesson after 0;lesson after 1 signs 1;lesson sight 3;lesson sight 3;lesson after 3 sight 2;"
            + "lesson signs 0;", 15);
        due.is("a is taught twice", x.hangs(0), 0);
        due.is("b by lesson 2, behind 1, behind 0", x.hangs(1), 7);
        due.is("ab aloud without its lesson", x.hangs(2), 0);
        due.is("c twice by sight", x.hangs(3), 0);
        due.is("abc not at all", x.hangs(4), NONE);
        due.is("hangs(5)", x.hangs(5), UNKNOWN);
        due.is("hangs(-1)", x.hangs(-1), UNKNOWN);
        FirstReader y = due.reader("sign a 1;sign b 2;sign ab 3;word ab 1 2;lesson signs 0,1;lesson after 0 signs 2;lesson after 1 sight 0;", 7);
        due.is("without 1 it is aloud, without 2 it is not", y.hangs(0), 5);
        FirstReader z = due.reader("sign a 1;word a 1;", 2);
        due.is("no lessons", z.hangs(0), NONE);
    }

    private static void setsAreRefused() {
        FirstReader x = due.reader("word a 1;page a;lesson;lesson after 0;", 4);
        for (int set : new int[] {4, 6, -1, Integer.MIN_VALUE, 1 << 7, 1 << 30}) {
            due.is("taught(" + set + ")", x.taught(set), UNKNOWN);
            due.is("reads(" + set + ")", x.reads(set), UNKNOWN);
            due.is("mixed(0, " + set + ")", x.mixed(0, set), UNKNOWN);
            due.is("unknown(0, " + set + ")", x.unknown(0, set), UNKNOWN);
        }
        due.is("taught(2)", x.taught(2), NOT);
        due.is("reads(2)", x.reads(2), NOT);
        due.is("mixed(0, 2)", x.mixed(0, 2), NOT);
        due.is("mixed(1, 2)", x.mixed(1, 2), UNKNOWN);
        due.is("mixed(-1, 0)", x.mixed(-1, 0), UNKNOWN);
        due.is("unknown(0, 2)", x.unknown(0, 2), NOT);
        FirstReader all = due.reader("word a 1;" + "lesson;".repeat(6) + "lesson sight 0;", 8);
        due.is("all of seven", all.reads(127), 1);
        due.is("an eighth", all.reads(128), UNKNOWN);
    }
}
