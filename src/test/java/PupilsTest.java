/** Promises 23 to 33: what pupils hold and forget, and what is next for them. */
public final class PupilsTest {
    private static final int NONE = FirstReader.NONE, UNKNOWN = FirstReader.UNKNOWN,
        OUTSIDE = FirstReader.OUTSIDE, NOT = FirstReader.NOT;
    private static final Due due = new Due("PupilsTest");
    private static final String TEXT = "sign a 1;sign b 2;sign e - end;sign ab 3;word ab 1 2;word abe 1 2;word c 4;word ba 2 1;"
        + "lesson signs 0,1;lesson after 0 signs 2 sight 2;lesson after 1 signs 3;page ab c ab;page abe;page ba ab abe c;";

    public static void main(String[] args) {
        baseIsTheFirstSpan();
        takeCountsWhatWasNotHeld();
        takeNeedsWhatComesAhead();
        takeAgainHoldsLonger();
        spanIs999AtMost();
        readUsesWordsAndSigns();
        readUsesNoSignsOfHeldWordsOrToldOnes();
        readGoesByWhatWasHeldAsThePageBegan();
        silentSignsAreUsedToo();
        restMovesTheDay();
        aboutTells();
        spanTells();
        meetsCountsByWhatIsHeld();
        nextIsALessonAgainFirst();
        nextIsThePageWithTheMostUnknown();
        nextIsALessonThatMayBe();
        forAllIsTheLeastSum();
        imagesKeepPupilsAndBase();
        pupilsAndPagesThatThereAreNot();
        due.end();
    }

    private static FirstReader reader() {
        return due.reader(TEXT, 14);
    }

    private static void baseIsTheFirstSpan() {
        FirstReader x = reader();
        due.is("base(0)", x.base(0), OUTSIDE);
        due.is("base(31)", x.base(31), OUTSIDE);
        due.is("base(-3)", x.base(-3), OUTSIDE);
        due.is("base(30)", x.base(30), 3);
        due.is("base(1)", x.base(1), 30);
        due.is("count(5)", x.count(5), 1);
        x.take(0, 0);
        due.is("span", x.span(0, false, 0), 1);
        x.take(0, 0);
        due.is("once a day", x.span(0, false, 0), 1);
        x.base(5);
        due.is("what is held keeps its span", x.span(0, false, 0), 1);
        x.rest(0, 1);
        due.is("held on the last day of its span", x.about(0, 2), 3);
        x.take(0, 0);
        due.is("twice its own span", x.span(0, false, 0), 2);
        x.rest(0, 3);
        due.is("not held", x.about(0, 2), 0);
        due.is("the span is still told", x.span(0, false, 0), 2);
        x.take(0, 0);
        due.is("BASE again", x.span(0, false, 0), 5);
        due.is("base(7) of all pupils", x.base(7), 5);
        x.take(2, 0);
        due.is("span of another", x.span(2, false, 1), 7);
    }

    private static void takeCountsWhatWasNotHeld() {
        FirstReader x = reader();
        due.is("take(0, 0)", x.take(0, 0), 2);
        due.is("take(0, 0)", x.take(0, 0), 0);
        due.is("take(0, 1)", x.take(0, 1), 2);
        due.is("take(1, 0) by another", x.take(1, 0), 2);
        due.is("lessons taken", x.about(0, 1), 3);
        x.rest(0, 4);
        due.is("all forgotten", x.take(0, 1), 2);
        due.is("all forgotten", x.take(0, 0), 2);
        FirstReader y = due.reader("sign a 1;sign b 1;word a 1;word b 1;lesson signs 0,1 sight 0,1;lesson signs 1 sight 1;", 6);
        due.is("half of it is held", y.take(0, 1), 2);
        due.is("half of it is held", y.take(0, 0), 2);
    }

    private static void takeNeedsWhatComesAhead() {
        FirstReader x = reader();
        due.is("take(0, 1)", x.take(0, 1), NOT);
        due.is("take(0, 2)", x.take(0, 2), NOT);
        due.is("nothing changed", x.about(0, 1), 0);
        due.is("nothing changed", x.about(0, 2), 0);
        x.take(0, 0);
        due.is("take(0, 2)", x.take(0, 2), NOT);
        due.is("take(1, 1)", x.take(1, 1), NOT);
        x.take(0, 1);
        due.is("take(0, 2)", x.take(0, 2), 1);
        due.is("about(0, 1)", x.about(0, 1), 7);
        due.is("take(3, 0)", x.take(3, 0), UNKNOWN);
        due.is("take(-1, 0)", x.take(-1, 0), UNKNOWN);
        due.is("take(0, 3)", x.take(0, 3), UNKNOWN);
        due.is("take(0, -1)", x.take(0, -1), UNKNOWN);
    }

    private static void takeAgainHoldsLonger() {
        FirstReader x = reader();
        x.take(0, 0);
        x.take(0, 0);
        due.is("once a day", x.span(0, false, 0), 3);
        x.rest(0, 3);
        due.is("held", x.take(0, 0), 0);
        due.is("span", x.span(0, false, 0), 6);
        x.take(0, 0);
        due.is("once a day", x.span(0, false, 0), 6);
        x.rest(0, 6);
        due.is("held from the last use on", x.about(0, 2), 3);
        x.rest(0, 1);
        due.is("a day too late", x.about(0, 2), 0);
        due.is("take", x.take(0, 0), 2);
        due.is("span", x.span(0, false, 0), 3);
        x.take(0, 0);
        due.is("used on this day already", x.span(0, false, 0), 3);
    }

    private static void spanIs999AtMost() {
        FirstReader x = reader();
        x.base(30);
        x.take(1, 0);
        long[] spans = {60, 120, 240, 480, 960, 999, 999};
        for (long span : spans) {
            x.rest(1, 1);
            x.take(1, 0);
            due.is("span", x.span(1, false, 1), span);
        }
        x.rest(1, 999);
        due.is("held", x.about(1, 2), 3);
        x.rest(1, 1);
        due.is("not held", x.about(1, 2), 0);
    }

    private static void readUsesWordsAndSigns() {
        FirstReader x = reader();
        x.take(0, 0);
        x.rest(0, 2);
        due.is("c is unknown", x.read(0, 0), 1);
        due.is("a was used", x.span(0, false, 0), 6);
        due.is("b was used", x.span(0, false, 1), 6);
        due.is("ab was read", x.span(0, true, 0), 3);
        due.is("c was told", x.span(0, true, 2), 3);
        due.is("abe was not on it", x.span(0, true, 1), 0);
        due.is("WORDS HELD", x.about(0, 3), 5);
        due.is("no lesson was taken by it", x.about(0, 1), 1);
        due.is("again: all is held", x.read(0, 0), 0);
        due.is("once a day", x.span(0, true, 0), 3);
        due.is("another pupil", x.read(1, 2), 4);
        due.is("again", x.read(1, 2), 0);
    }

    private static void readUsesNoSignsOfHeldWordsOrToldOnes() {
        FirstReader x = reader();
        x.take(0, 0);
        x.read(0, 0);
        x.rest(0, 1);
        due.is("held words", x.read(0, 0), 0);
        due.is("the word was used", x.span(0, true, 0), 6);
        due.is("its signs were not", x.span(0, false, 0), 3);
        due.is("abe is told: e was not taught", x.read(0, 1), 1);
        due.is("its signs were not used", x.span(0, false, 1), 3);
        due.is("e was not used", x.span(0, false, 2), 0);
        FirstReader y = due.reader("sign a 1;sign b 2;word b 2;lesson signs 0,1;page b;", 5);
        y.take(0, 0);
        y.rest(0, 1);
        due.is("read", y.read(0, 0), 0);
        due.is("a is not in it", y.span(0, false, 0), 3);
        due.is("b is", y.span(0, false, 1), 6);
    }

    private static void readGoesByWhatWasHeldAsThePageBegan() {
        FirstReader x = due.reader("sign a 1;sign b 2;word a 1;word ab 1 2;word b 2;lesson signs 0;lesson signs 1;page a b ab b;", 8);
        x.take(0, 0);
        x.rest(0, 3);
        x.take(0, 1);
        due.is("read", x.read(0, 0), 0);
        due.is("a", x.span(0, false, 0), 6);
        due.is("b was used today", x.span(0, false, 1), 3);
        x.rest(0, 4);
        due.is("words and b are forgotten", x.about(0, 2), 1);
        due.is("words and b are forgotten", x.about(0, 3), 0);
        due.is("read", x.read(0, 0), 2);
        due.is("a", x.span(0, false, 0), 12);
        due.is("b", x.span(0, false, 1), 3);
        due.is("b stays forgotten", x.about(0, 2), 1);
        due.is("ab got BASE again", x.span(0, true, 1), 3);
    }

    private static void silentSignsAreUsedToo() {
        FirstReader x = reader();
        x.take(0, 0);
        x.take(0, 1);
        x.rest(0, 1);
        due.is("abe is read", x.read(0, 1), 0);
        due.row("signs that came out", 0, k -> x.span(0, false, k), 6, 6, 6, 0);
    }

    private static void restMovesTheDay() {
        FirstReader x = reader();
        due.is("rest(0, 0)", x.rest(0, 0), OUTSIDE);
        due.is("rest(0, -1)", x.rest(0, -1), OUTSIDE);
        due.is("rest(0, 1000)", x.rest(0, 1000), OUTSIDE);
        due.is("rest(0, max)", x.rest(0, Integer.MAX_VALUE), OUTSIDE);
        due.is("rest(3, 0)", x.rest(3, 0), UNKNOWN);
        due.is("rest(-1, 1)", x.rest(-1, 1), UNKNOWN);
        for (int i = 1; i <= 10; i++) {
            due.is("rest(0, 999)", x.rest(0, 999), 999 * i);
        }
        due.is("above 9999", x.rest(0, 10), OUTSIDE);
        due.is("the day stays", x.about(0, 0), 9990);
        due.is("rest(0, 9)", x.rest(0, 9), 9999);
        due.is("rest(0, 1)", x.rest(0, 1), OUTSIDE);
        due.is("the others stay", x.about(1, 0), 0);
        due.is("rest(2, 1)", x.rest(2, 1), 1);
    }

    private static void aboutTells() {
        FirstReader x = reader();
        x.take(1, 0);
        x.rest(1, 2);
        x.take(1, 1);
        due.row("about 1", -1, what -> x.about(1, what), OUTSIDE, 2, 3, 7, 4, OUTSIDE);
        x.rest(1, 2);
        due.row("about 1", 0, what -> x.about(1, what), 4, 3, 4, 4);
        due.row("about 0", 0, what -> x.about(0, what), 0, 0, 0, 0);
        due.is("about(3, 9)", x.about(3, 9), UNKNOWN);
        due.is("about(-1, 0)", x.about(-1, 0), UNKNOWN);
    }

    private static void spanTells() {
        FirstReader x = due.reader("sign a 1;sign b 2;word a 1;word b 2;word c 3;lesson signs 1 sight 2;", 6);
        x.take(2, 0);
        due.row("signs", -1, k -> x.span(2, false, k), UNKNOWN, 0, 3, UNKNOWN);
        due.row("words", -1, k -> x.span(2, true, k), UNKNOWN, 0, 0, 3, UNKNOWN);
        due.is("span(3, false, 0)", x.span(3, false, 0), UNKNOWN);
        due.is("span(-1, true, 0)", x.span(-1, true, 0), UNKNOWN);
        due.is("span of another", x.span(1, true, 2), 0);
    }

    private static void meetsCountsByWhatIsHeld() {
        FirstReader x = reader();
        due.row("meets 0", -1, p -> x.meets(0, p), UNKNOWN, 2, 1, 4, UNKNOWN);
        x.take(0, 0);
        due.row("meets 0", 0, p -> x.meets(0, p), 1, 1, 2);
        x.take(0, 1);
        due.row("meets 0", 0, p -> x.meets(0, p), 0, 0, 0);
        x.take(0, 2);
        due.row("ab comes out as 3", 0, p -> x.meets(0, p), 1, 1, 2);
        due.is("it changed nothing", x.span(0, true, 0), 0);
        x.read(0, 0);
        due.row("ab is held", 0, p -> x.meets(0, p), 0, 1, 1);
        x.rest(0, 4);
        due.row("all is forgotten", 0, p -> x.meets(0, p), 2, 1, 4);
        due.is("meets(3, 0)", x.meets(3, 0), UNKNOWN);
        due.is("meets(-1, 0)", x.meets(-1, 0), UNKNOWN);
    }

    private static void nextIsALessonAgainFirst() {
        FirstReader x = due.reader("sign a 1;word a 1;word b 2;lesson signs 0;lesson sight 1;lesson;page a b;", 7);
        due.is("nothing was taken", x.next(0, 0), 0);
        x.take(0, 1);
        x.rest(0, 3);
        x.take(0, 0);
        x.take(0, 2);
        due.is("all is held and known", x.next(0, 16), NONE);
        x.rest(0, 1);
        due.is("b is not held", x.next(0, 16), 1);
        x.rest(0, 3);
        due.is("a is not held either", x.next(0, 16), 0);
        x.take(0, 0);
        due.is("b is left", x.next(0, 16), 1);
        due.is("next(0, -1)", x.next(0, -1), OUTSIDE);
        due.is("next(0, 17)", x.next(0, 17), OUTSIDE);
        due.is("next(3, 17)", x.next(3, 17), UNKNOWN);
        due.is("next(-1, 0)", x.next(-1, 0), UNKNOWN);
    }

    private static void nextIsThePageWithTheMostUnknown() {
        FirstReader x = due.reader("word a 1;word b 2;word c 3;page a;page a b;page b c;page a b c;lesson;", 8);
        due.row("next 0", 0, u -> x.next(0, u), 0, 100, 101, 103, 103);
        x.read(0, 0);
        due.row("a is known", 0, u -> x.next(0, u), 0, 101, 102, 102, 102);
        x.read(0, 3);
        due.row("all is known", 0, u -> x.next(0, u), 0, 0, 0);
        x.take(0, 0);
        due.row("all is done", 0, u -> x.next(0, u), NONE, NONE, NONE);
        FirstReader y = due.reader("word a 1;word b 2;" + "page a;".repeat(7) + "page a b;", 10);
        due.row("eight pages", 0, u -> y.next(0, u), NONE, 100, 107);
        y.read(0, 7);
        due.row("all is known", 0, u -> y.next(0, u), NONE, NONE, NONE);
        due.is("forAll() of eight", y.forAll(), 0);
    }

    private static void nextIsALessonThatMayBe() {
        FirstReader x = due.reader("sign a 1;lesson;lesson after 0 signs 0;lesson;", 4);
        due.is("next(0, 0)", x.next(0, 0), 0);
        x.take(0, 2);
        due.is("next(0, 0)", x.next(0, 0), 0);
        x.take(0, 0);
        due.is("next(0, 0)", x.next(0, 0), 1);
        x.take(0, 1);
        due.is("next(0, 0)", x.next(0, 0), NONE);
        FirstReader y = due.reader("lesson;lesson after 0;lesson;", 3);
        y.take(0, 0);
        y.take(0, 1);
        due.is("next(0, 0)", y.next(0, 0), 2);
        due.is("next(1, 0)", y.next(1, 0), 0);
    }

    private static void forAllIsTheLeastSum() {
        FirstReader x = due.reader("word a 1;word b 2;word c 3;page a b;page c a;page b c;page a b c;", 7);
        due.is("like ones: the least", x.forAll(), 0);
        x.read(0, 2);
        due.is("2 + 2 + 0", x.forAll(), 2);
        x.read(1, 1);
        due.is("1 1 0 + 1 0 1 + 2 2 2", x.forAll(), 1);
        x.read(2, 0);
        due.is("all alike but the last", x.forAll(), 0);
        x.rest(2, 4);
        due.is("the third has forgotten", x.forAll(), 1);
        FirstReader y = due.reader("word a 1;lesson;", 2);
        due.is("no pages", y.forAll(), NONE);
        StringBuilder words = new StringBuilder();
        StringBuilder page = new StringBuilder("page");
        for (char c = 'a'; c <= 'p'; c++) {
            words.append("word ").append(c).append(" 1;");
            page.append(' ').append(c);
        }
        FirstReader z = due.reader(words + page.toString() + ";", 17);
        due.is("all is unknown to all", z.forAll(), 0);
        due.is("meets(2, 0)", z.meets(2, 0), 16);
        due.is("next(2, 15)", z.next(2, 15), NONE);
        due.is("next(2, 16)", z.next(2, 16), 100);
        due.is("fewest(0, 15)", z.fewest(0, 15), NONE);
    }

    private static void imagesKeepPupilsAndBase() {
        FirstReader x = reader();
        due.is("goBack(0)", x.goBack(0), NOT);
        due.is("keep(0)", x.keep(0), 1);
        due.is("goBack(1)", x.goBack(1), NOT);
        x.base(10);
        x.take(0, 0);
        x.rest(0, 1);
        x.read(1, 0);
        x.rest(2, 5);
        due.is("keep(1)", x.keep(1), 1);
        x.base(20);
        x.take(0, 0);
        x.take(0, 1);
        x.rest(0, 7);
        due.is("goBack(1)", x.goBack(1), 1);
        due.is("BASE", x.count(5), 10);
        due.row("about 0", 0, what -> x.about(0, what), 1, 1, 3, 0);
        due.row("about 1", 0, what -> x.about(1, what), 0, 0, 0, 5);
        due.row("about 2", 0, what -> x.about(2, what), 5, 0, 0, 0);
        due.is("span", x.span(0, false, 0), 10);
        due.is("span", x.span(1, true, 2), 10);
        x.take(0, 0);
        due.is("the last day came along", x.span(0, false, 0), 20);
        due.is("goBack(1) again", x.goBack(1), 1);
        due.is("the image stayed as it was", x.span(0, false, 0), 10);
        due.is("goBack(0)", x.goBack(0), 1);
        due.row("about 0", 0, what -> x.about(0, what), 0, 0, 0, 0);
        due.is("BASE", x.base(4), 3);
        x.take(2, 0);
        due.is("keep(0) again", x.keep(0), 1);
        x.rest(2, 9);
        due.is("goBack(0)", x.goBack(0), 1);
        due.row("about 2", 0, what -> x.about(2, what), 0, 1, 3, 0);
        due.is("BASE", x.count(5), 4);
        for (int i : new int[] {2, -1, Integer.MAX_VALUE, Integer.MIN_VALUE}) {
            due.is("keep(" + i + ")", x.keep(i), UNKNOWN);
            due.is("goBack(" + i + ")", x.goBack(i), UNKNOWN);
        }
    }

    private static void pupilsAndPagesThatThereAreNot() {
        FirstReader x = reader();
        due.is("read(3, 0)", x.read(3, 0), UNKNOWN);
        due.is("read(-1, 0)", x.read(-1, 0), UNKNOWN);
        due.is("read(0, 3)", x.read(0, 3), UNKNOWN);
        due.is("read(0, -1)", x.read(0, -1), UNKNOWN);
        due.is("nothing changed", x.about(0, 3), 0);
    }
}
