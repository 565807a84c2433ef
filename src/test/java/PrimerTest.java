/** Promises 1 to 9: a new object, the text, its faults, and what was told. */
public final class PrimerTest {
    private static final int NONE = FirstReader.NONE, UNKNOWN = FirstReader.UNKNOWN,
        OUTSIDE = FirstReader.OUTSIDE, NOT = FirstReader.NOT, FULL = FirstReader.FULL;
    private static final Due due = new Due("PrimerTest");

    public static void main(String[] args) {
        aNewObjectIsEmpty();
        feedAppendsTheLowBytesHighestFirst();
        feedRefuses();
        primerTakesTheTextAndEmptiesIt();
        aFaultLeavesAllAsItWas();
        primerBeginsAnew();
        nothingIsLeftOfEarlierPrimers();
        nothingIsLeftOfEarlierTexts();
        whatMayStandWhere();
        faultsOfKind1();
        faultsOfKind2();
        faultsOfKind3();
        faultsOfKind4();
        faultsOfKind5();
        faultsOfKind6();
        theFirstByteAndTheLeastKind();
        signTells();
        wordTells();
        lessonTells();
        pageTells();
        countTells();
        due.end();
    }

    private static void aNewObjectIsEmpty() {
        FirstReader x = new FirstReader();
        due.row("new: count", 0, x::count, 0, 0, 0, 0, 0, 3);
        due.is("new: fault()", x.fault(), NONE);
        due.is("new: sign(0, 0)", x.sign(0, 0), UNKNOWN);
        due.is("new: taught(0)", x.taught(0), 0);
        due.is("new: reads(0)", x.reads(0), 0);
        due.is("new: reads(1)", x.reads(1), UNKNOWN);
        due.is("new: forAll()", x.forAll(), NONE);
        for (int q = 0; q < 3; q++) {
            int pupil = q;
            due.row("new: about " + q, 0, what -> x.about(pupil, what), 0, 0, 0, 0);
            due.is("new: next", x.next(q, 16), NONE);
        }
        due.is("new: goBack(0)", x.goBack(0), NOT);
        due.is("new: goBack(1)", x.goBack(1), NOT);
    }

    private static void feedAppendsTheLowBytesHighestFirst() {
        FirstReader x = new FirstReader();
        due.is("feed(3)", x.feed(3, 0x1122334455000000L + ('s' << 16 | 'i' << 8 | 'g')), 3);
        due.is("feed(1)", x.feed(1, -256L + 'n'), 4);
        due.is("feed(8)", x.feed(8, 0x20612030203B2020L), 12);
        due.is("count(4)", x.count(4), 12);
        due.is("primer()", x.primer(), 1);
        due.is("sign(0, 3)", x.sign(0, 3), 0);
        due.is("count(4)", x.count(4), 0);
        due.is("feed(8) with the highest bit", x.feed(8, -1L), 8);
        due.is("primer()", x.primer(), -11);
        due.is("fault()", x.fault(), 0);
    }

    private static void feedRefuses() {
        FirstReader x = new FirstReader();
        due.is("feed(0)", x.feed(0, 32), OUTSIDE);
        due.is("feed(9)", x.feed(9, 32), OUTSIDE);
        due.is("feed(-1)", x.feed(-1, 32), OUTSIDE);
        due.is("feed(min)", x.feed(Integer.MIN_VALUE, 32), OUTSIDE);
        due.is("feed(max)", x.feed(Integer.MAX_VALUE, 32), OUTSIDE);
        for (int i = 1; i <= 74; i++) {
            due.is("feed(8)", x.feed(8, 0x2020202020202020L), 8 * i);
        }
        due.is("feed(3)", x.feed(3, 0x202020L), 595);
        due.is("feed(6) beyond", x.feed(6, 0x202020202020L), FULL);
        due.is("feed(9) beyond", x.feed(9, 0), OUTSIDE);
        due.is("count(4)", x.count(4), 595);
        due.is("feed(5) to the brim", x.feed(5, 0x206C6573L << 8), 600);
        due.is("feed(1) beyond", x.feed(1, 32), FULL);
        due.is("primer()", x.primer(), -11);
        due.is("fault()", x.fault(), 596);
        due.is("feed behind primer()", x.feed(1, 32), 1);
    }

    private static void primerTakesTheTextAndEmptiesIt() {
        FirstReader x = due.reader("sign a 1;word a 1;", 2);
        due.is("count(4)", x.count(4), 0);
        due.is("primer() of nothing", x.primer(), 0);
        due.row("emptied: count", 0, x::count, 0, 0, 0, 0);
        Due.feed(x, "word b 2;");
        due.is("primer()", x.primer(), 1);
        due.row("told anew: count", 0, x::count, 0, 1, 0, 0);
        due.is("word(0, 2)", x.word(0, 2), 1);
        Due.feed(x, "   ");
        due.is("primer() of blanks", x.primer(), 0);
        due.is("fault()", x.fault(), NONE);
        due.row("blanks: count", 0, x::count, 0, 0, 0, 0);
    }

    private static void aFaultLeavesAllAsItWas() {
        FirstReader x = due.reader("sign a 1;word a 1;lesson signs 0;page a;", 4);
        x.base(7);
        x.take(0, 0);
        x.keep(0);
        x.rest(0, 2);
        Due.feed(x, "sign b 2;word b 2;word c 3;lesson;page b;page q;");
        due.is("primer()", x.primer(), -15);
        due.is("fault()", x.fault(), 46);
        due.row("as it was: count", 0, x::count, 1, 1, 1, 1, 0, 7);
        due.is("sign(0, 3)", x.sign(0, 3), 0);
        due.is("word(0, 10)", x.word(0, 10), 1);
        due.is("lesson(0, 1)", x.lesson(0, 1), 1);
        due.row("as it was: about", 0, what -> x.about(0, what), 2, 1, 1, 0);
        due.is("reads(1)", x.reads(1), 1);
        due.is("goBack(0)", x.goBack(0), 1);
        due.is("about(0, 0)", x.about(0, 0), 0);
        due.is("primer() of nothing", x.primer(), 0);
        due.is("fault() is gone", x.fault(), NONE);
    }

    private static void primerBeginsAnew() {
        String text = "sign a 1;word a 1;lesson signs 0 sight 0;page a;";
        FirstReader x = due.reader(text, 4);
        x.base(9);
        for (int q = 0; q < 3; q++) {
            x.take(q, 0);
            x.rest(q, 4);
        }
        x.keep(0);
        x.keep(1);
        due.is("course ahead", x.course(0, 0, -1), 2);
        Due.feed(x, text);
        due.is("primer()", x.primer(), 4);
        for (int q = 0; q < 3; q++) {
            int pupil = q;
            due.row("anew: about " + q, 0, what -> x.about(pupil, what), 0, 0, 0, 0);
            due.is("anew: span", x.span(q, false, 0), 0);
            due.is("anew: span", x.span(q, true, 0), 0);
        }
        due.is("BASE stays", x.count(5), 9);
        due.is("goBack(0)", x.goBack(0), NOT);
        due.is("goBack(1)", x.goBack(1), NOT);
        Due.feed(x, "word a 1;page a;");
        due.is("primer()", x.primer(), 2);
        due.is("course is another", x.course(0, 0, -1), NONE);
        due.is("reads is another", x.reads(0), 0);
    }

    /** Three texts: rows that are used again hold something else by the third. */
    private static void nothingIsLeftOfEarlierPrimers() {
        FirstReader x = due.reader("sign a 1 start;sign b 2 end;word ab 1 2;word b 2;lesson signs 0,1 sight 0;lesson after 0;page ab ab b;", 7);
        due.is("reads(3)", x.reads(3), 3);
        due.is("hangs(1)", x.hangs(1), 1);
        for (int i = 0; i < 2; i++) {
            Due.feed(x, "sign b 1;sign bb -;word b 1;word ba 1 2 3;lesson;lesson sight 1;page b;");
            due.is("primer()", x.primer(), 7);
            due.row("sign 0", 0, what -> x.sign(0, what), 1, 1, 0, 1, NONE, NONE, NONE);
            due.row("sign 1", 0, what -> x.sign(1, what), 2, NONE, 0, 1, 1, NONE, NONE);
            due.row("word 0", 0, what -> x.word(0, what), 1, 1, 1, NONE);
            due.row("sounds of word 1", 10, what -> x.word(1, what), 1, 2, 3, NONE);
            due.row("lesson 0", 0, what -> x.lesson(0, what), 0, 0, 0);
            due.row("lesson 1", 0, what -> x.lesson(1, what), 0, 0, 2);
            due.row("page 0", -1, what -> x.page(0, what), 1, 0, NONE, NONE);
            due.is("fits(0, 1, 1)", x.fits(0, 1, 1), 0);
            due.row("reads", 0, x::reads, 0, 0, 2, 2);
            due.is("hangs(0)", x.hangs(0), NONE);
            due.is("hangs(1)", x.hangs(1), 2);
            due.is("fewest(0, 0)", x.fewest(0, 0), NONE);
        }
    }

    private static void nothingIsLeftOfEarlierTexts() {
        String[][] texts = {{"sign a 1;", "sign a 1"}, {"sign a 12;", "sign a 1"}, {"sign a 1 ;", "sign a 1"},
            {"sign ab 1;", "sign a"}, {"sign a 1 end;", "sign a 1 "}, {"sign a 1,2;", "sign a 1"}};
        for (String[] pair : texts) {
            FirstReader x = new FirstReader();
            Due.feed(x, pair[0]);
            x.primer();
            Due.feed(x, pair[1]);
            due.is("primer() of " + pair[1] + " behind " + pair[0], x.primer(), -11);
            due.is("fault() of " + pair[1] + " behind " + pair[0], x.fault(), pair[1].length());
        }
    }

    private static void whatMayStandWhere() {
        due.reader("sign a1;sign b-;sign c2end;sign d-start;word abc1 2 3;lesson signs0,1sight0;page abc;", 7);
        due.reader("  sign  ab  07  start  ;  lesson  signs  0  ;  lesson after 0 ;lesson   ;", 4);
        due.reader("sign sign 1;sign word 2;sign end 3 end;word start 1;word page 2;page page start page;", 6);
        due.reader("word a 0;lesson sight 0;lesson after 0 sight 0;lesson after 1,0;", 4);
        due.reader("sign a 29;sign abcd 0;word abcdefgh 1 2 3 4 5 6 7 8;word zyxwvuts 29;", 4);
        due.reader("sign a 1;sign a 1;sign a 2;", 3);
        due.reader("sign a 1;lesson signs 0 , 00;".replace(" , 00", ""), 2);
        FirstReader x = due.reader("sign ab 5 start;sign c 6;", 2);
        due.is("no place is left over", x.sign(1, 2), 0);
    }

    private static void faultsOfKind1() {
        due.fault(";", 1, 0);
        due.fault(" sentence a 1;", 1, 1);
        due.fault("signs a 1;", 1, 0);
        due.fault("sig", 1, 0);
        due.fault("fign a 1;", 1, 0);
        due.fault("sigh a 1;", 1, 0);
        due.fault("lord a 1;", 1, 0);
        due.fault("word a 1;sage a;", 1, 9);
        due.fault("sign a 1;word a 1;lesson eight 0;", 1, 25);
        due.fault("sign a 1 and;", 1, 9);
        due.fault("Sign a 1;", 1, 0);
        due.fault("siGn a 1;", 1, 0);
        due.fault("signA 1;", 1, 4);
        due.fault("sign", 1, 4);
        due.fault("sign  ", 1, 6);
        due.fault("sign ;", 1, 5);
        due.fault("sign 1;", 1, 5);
        due.fault("sign 1000;", 1, 5);
        due.fault("sign a", 1, 6);
        due.fault("sign a b 1;", 1, 7);
        due.fault("sign a start;", 1, 7);
        due.fault("sign a 1", 1, 8);
        due.fault("sign a 1 ", 1, 9);
        due.fault("sign a 1 2;", 1, 9);
        due.fault("sign a 1 -;", 1, 9);
        due.fault("sign a - 1;", 1, 9);
        due.fault("sign a -1;", 1, 8);
        due.fault("sign a 1 starts;", 1, 9);
        due.fault("sign a 1 start end;", 1, 15);
        due.fault("sign a 1 startend;", 1, 9);
        due.fault("sign a 1,2;", 1, 8);
        due.fault("sign a\t1;", 1, 6);
        due.fault("sign a 1;" + (char) 0 + "sign", 1, 9);
        due.fault("sign " + (char) 0xE1 + " 1;", 1, 5);
        due.fault("sign a 1;;", 1, 9);
        due.fault("word ;", 1, 5);
        due.fault("word a -;", 1, 7);
        due.fault("word a 1 b;", 1, 9);
        due.fault("word a 1,2;", 1, 8);
        due.fault("word a 1 2", 1, 10);
        due.fault("word a b 1;", 1, 7);
        due.fault("lesson", 1, 6);
        due.fault("lesson 1;", 1, 7);
        due.fault("lesson before 1;", 1, 7);
        due.fault("lesson after;", 1, 12);
        due.fault("lesson signs ,;", 1, 13);
        due.fault("sign a 1;lesson signs 0,;", 1, 24);
        due.fault("sign a 1;lesson signs 0 0;", 1, 24);
        due.fault("sign a 1;lesson signs 0,", 1, 24);
        due.fault("lesson;lesson signs after 0;", 1, 20);
        due.fault("sign a 1;lesson;lesson signs 0 after 0;", 1, 31);
        due.fault("sign a 1;lesson signs 0 signs 0;", 1, 24);
        due.fault("word a 1;sign a 1;lesson sight 0 signs 0;", 1, 33);
        due.fault("page;", 1, 4);
        due.fault("page ;", 1, 5);
        due.fault("page 1;", 1, 5);
        due.fault("word a 1;page a", 1, 15);
        due.fault("word a 1;page a,a;", 1, 15);
        due.fault("word a 1;page a 1;", 1, 16);
    }

    private static void faultsOfKind2() {
        due.fault("sign a 30;", 2, 7);
        due.fault("sign a 99", 2, 7);
        due.fault("sign a 100;", 2, 7);
        due.fault("sign a 001;", 2, 7);
        due.fault("sign a 000000000000000000000000000001;", 2, 7);
        due.fault("sign a 4294967297;", 2, 7);
        due.fault("word a 1 30;", 2, 9);
        due.fault("word a 1 2 029;", 2, 11);
        due.fault("lesson after 0;", 2, 13);
        due.fault("lesson;lesson after 1;", 2, 20);
        due.fault("lesson;lesson after 0,2;", 2, 22);
        due.fault("lesson;lesson after 000;", 2, 20);
        due.fault("lesson signs 0;", 2, 13);
        due.fault("lesson signs 0;sign a 1;", 2, 13);
        due.fault("sign a 1;word a 1;word b 1;lesson signs 1;", 2, 40);
        due.fault("word a 1;lesson sight 1;", 2, 22);
        due.fault("sign a 1;sign b 1;word a 1;lesson sight 0,1;", 2, 42);
        due.fault("sign a 1;lesson signs 0,99;", 2, 24);
    }

    private static void faultsOfKind3() {
        String signs = "sign a 1;".repeat(20);
        due.reader(signs, 20);
        due.fault(signs + " sign a 1;", 3, 181);
        due.fault(signs + "sign", 3, 180);
        due.fault(signs + "sign abcdefg", 3, 180);
        due.fault(signs + "signs", 1, 180);
        StringBuilder words = new StringBuilder();
        for (char c = 'a'; c <= 'x'; c++) {
            words.append("word ").append(c).append(" 1;");
        }
        due.reader(words.toString(), 24);
        due.fault(words + "word y 1;", 3, 216);
        due.fault(words + "word a 1;", 3, 216);
        due.reader("lesson;".repeat(7), 7);
        due.fault("lesson;".repeat(8), 3, 49);
        due.reader("word a 1;" + "page a;".repeat(8), 9);
        due.fault("word a 1;" + "page a;".repeat(8) + "page b;", 3, 65);
    }

    private static void faultsOfKind4() {
        due.fault("sign abcde 1;", 4, 9);
        due.fault("sign abcdefghijk", 4, 9);
        due.fault("word abcdefghi 1;", 4, 13);
        due.fault("word abcdefgh 1;word abcdefghi 1;", 4, 29);
        due.fault("word a 1 2 3 4 5 6 7 8 9;", 4, 23);
        due.fault("word a 1 2 3 4 5 6 7 8 09 10;", 4, 23);
        due.reader("word a 1;page" + " a".repeat(16) + ";", 2);
        due.fault("word a 1;page" + " a".repeat(17) + ";", 4, 46);
        due.fault("word a 1;page" + " a".repeat(18) + ";", 4, 46);
    }

    private static void faultsOfKind5() {
        due.fault("word a 1;word a 2;", 5, 14);
        due.fault("word ab 1;word b 1;word a 1;word ab", 5, 33);
        due.reader("word ab 1;word a 1;word abc 1;word b 1;", 4);
        due.fault("page a;", 5, 5);
        due.fault("page a;word a 1;", 5, 5);
        due.fault("word a 1;page a b;", 5, 16);
        due.fault("word a 1;page aa;", 5, 14);
        due.fault("word ab 1;page a;", 5, 15);
        due.fault("page abcdefghijkl;", 5, 5);
        due.fault("word abcdefgh 1;page abcdefghi;", 5, 21);
    }

    private static void faultsOfKind6() {
        due.fault("sign a 1;lesson signs 0,0;", 6, 24);
        due.fault("sign a 1;lesson signs 0,00;", 6, 24);
        due.fault("lesson;lesson;lesson after 1,0,1;", 6, 31);
        due.fault("word a 1;word b 1;lesson sight 1 , 01 ;", 6, 35);
        due.reader("sign a 1;word a 1;lesson signs 0;lesson after 0 signs 0 sight 0;", 4);
    }

    private static void theFirstByteAndTheLeastKind() {
        due.fault("word a 1 2 3 4 5 6 7 8 30;", 2, 23);
        due.fault("word a 1 2 3 4 5 6 7 8 123;", 2, 23);
        due.fault("word a 1;page" + " a".repeat(16) + " b;", 4, 46);
        due.fault("word a 1;word a", 5, 14);
        due.fault("word a 1;word a 99;", 5, 14);
        due.fault("sign abcde 99;", 4, 9);
        due.fault("sign a 1;lesson signs 0,0,5;", 6, 24);
        due.fault("sign a 1;lesson signs 0,5,0;", 2, 24);
        due.fault("sign a 1;lesson signs 0,000;", 2, 24);
        due.fault("sign a 99;page q;", 2, 7);
    }

    private static void signTells() {
        FirstReader x = due.reader("sign q 0;sign abyz 29 start;sign dc - end;", 3);
        due.row("sign 0", 0, what -> x.sign(0, what), 1, 0, 0, 16, NONE, NONE, NONE);
        due.row("sign 1", 0, what -> x.sign(1, what), 4, 29, 1, 0, 1, 24, 25);
        due.row("sign 2", 0, what -> x.sign(2, what), 2, NONE, 2, 3, 2, NONE, NONE);
        due.is("sign(0, 7)", x.sign(0, 7), OUTSIDE);
        due.is("sign(0, -1)", x.sign(0, -1), OUTSIDE);
        due.is("sign(3, 0)", x.sign(3, 0), UNKNOWN);
        due.is("sign(-1, 0)", x.sign(-1, 0), UNKNOWN);
        due.is("sign(3, 7)", x.sign(3, 7), UNKNOWN);
        due.is("sign(max, max)", x.sign(Integer.MAX_VALUE, Integer.MAX_VALUE), UNKNOWN);
    }

    private static void wordTells() {
        FirstReader x = due.reader("word z 9;word abcdefgh 8 7 6 5 4 3 2 29;", 2);
        due.row("word 0", 0, what -> x.word(0, what), 1, 1, 25, NONE, NONE, NONE, NONE, NONE, NONE, NONE,
            9, NONE, NONE, NONE, NONE, NONE, NONE, NONE, OUTSIDE);
        due.row("word 1", 0, what -> x.word(1, what), 8, 8, 0, 1, 2, 3, 4, 5, 6, 7, 8, 7, 6, 5, 4, 3, 2, 29, OUTSIDE);
        due.is("word(0, -1)", x.word(0, -1), OUTSIDE);
        due.is("word(2, 0)", x.word(2, 0), UNKNOWN);
        due.is("word(-1, 18)", x.word(-1, 18), UNKNOWN);
    }

    private static void lessonTells() {
        FirstReader x = due.reader("sign a 1;sign b 2;sign c 3;word a 1;word b 2;"
            + "lesson signs 2,0 sight 1;lesson;lesson after 1,0 sight 0,1;", 8);
        due.row("lesson 0", 0, what -> x.lesson(0, what), 0, 5, 2);
        due.row("lesson 1", 0, what -> x.lesson(1, what), 0, 0, 0);
        due.row("lesson 2", -1, what -> x.lesson(2, what), OUTSIDE, 3, 0, 3, OUTSIDE);
        due.is("lesson(3, 0)", x.lesson(3, 0), UNKNOWN);
        due.is("lesson(-1, 3)", x.lesson(-1, 3), UNKNOWN);
    }

    private static void pageTells() {
        FirstReader x = due.reader("word a 1;word b 2;word c 3;page c a c;page" + " b".repeat(16) + ";", 5);
        due.row("page 0", -2, i -> x.page(0, i), OUTSIDE, 5, 2, 0, 2, NONE);
        due.is("page(0, 15)", x.page(0, 15), NONE);
        due.is("page(0, 16)", x.page(0, 16), OUTSIDE);
        due.is("page(1, -1)", x.page(1, -1), 2);
        due.is("page(1, 15)", x.page(1, 15), 1);
        due.is("page(1, 16)", x.page(1, 16), OUTSIDE);
        due.is("page(2, 0)", x.page(2, 0), UNKNOWN);
        due.is("page(-1, 16)", x.page(-1, 16), UNKNOWN);
    }

    private static void countTells() {
        FirstReader x = due.reader("sign a 1;sign b 1;sign c 1;sign d 1;word a 1;word b 1;word c 1;lesson;lesson;page a;", 10);
        x.feed(5, 0);
        x.base(30);
        due.row("count", -1, x::count, OUTSIDE, 4, 3, 2, 1, 5, 30, OUTSIDE);
    }
}
