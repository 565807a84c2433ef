/** Section 1 of the opening part: what may be told, how much of it, and where the first fault is. */
public final class TextEdgesTest {
    private static final int NONE = FirstReader.NONE;

    public static void main(String[] args) throws Exception {
        Edges.run(TextEdgesTest.class);
    }

    // ---- the text and its clauses

    @Says(promise = 0, words = "THE PRIMER is told in a text (600 bytes at most)")
    static void aTextOf600Bytes(Due due) {
        FirstReader x = new FirstReader();
        Due.feed(x, " ".repeat(593) + "lesson;");
        due.is("count(4)", x.count(4), 600);
        due.is("primer()", x.primer(), 1);
    }

    @Says(promise = 0, words = "THE PRIMER is told in a text (600 bytes at most)")
    static void aTextOf600BytesWithAFaultAtItsEnd(Due due) {
        due.fault(" ".repeat(594) + "lesson^", 1);
    }

    @Says(promise = 0, words = "clause = 'sign' letters (S | '-') ['start' | 'end'] ';'")
    static void aSignClause(Due due) {
        due.reader("sign a 1;sign b -;sign c 2 start;sign d 3 end;sign e - start;sign f - end;");
        due.fault("sign^;", 1);
        due.fault("sign ^1;", 1);
        due.fault("sign ^-;", 1);
        due.fault("sign a^;", 1);
        due.fault("sign a ^start;", 1);
        due.fault("sign a ^end 1;", 1);
        due.fault("sign a 1 ^-;", 1);
        due.fault("sign a - ^1;", 1);
        due.fault("sign a -^-;", 1);
        due.fault("sign a 1 start ^end;", 1);
        due.fault("sign a 1 end ^end;", 1);
        due.fault("sign a 1 start ^2;", 1);
        due.fault("sign a 1 ^sign b 2;", 1);
        due.fault("sign a 1^,2;", 1);
    }

    @Says(promise = 0, words = "'word' letters S {S} ';'")
    static void aWordClause(Due due) {
        due.reader("word a 1;word b 1 2;");
        due.fault("word^;", 1);
        due.fault("word ^1;", 1);
        due.fault("word a^;", 1);
        due.fault("word a ^-;", 1);
        due.fault("word a 1 ^-;", 1);
        due.fault("word a ^b 1;", 1);
        due.fault("word a 1 ^end;", 1);
        due.fault("word a 1^,2;", 1);
        due.fault("word a 1 ^word b 2;", 1);
    }

    @Says(promise = 0, words = "'lesson' ['after' list] ['signs' list] ['sight' list] ';'")
    static void aLessonClause(Due due) {
        String ahead = "sign a 1;word a 1;lesson;";
        due.reader(ahead + "lesson after 0;lesson signs 0;lesson sight 0;lesson after 0 signs 0;lesson after 0 sight 0;lesson signs 0 sight 0;");
        due.reader(ahead + "lesson after 0 signs 0 sight 0;");
        due.fault(ahead + "lesson ^0;", 1);
        due.fault(ahead + "lesson ^a;", 1);
        due.fault(ahead + "lesson after 0 ^after 0;", 1);
        due.fault(ahead + "lesson signs 0 ^after 0;", 1);
        due.fault(ahead + "lesson signs 0 ^signs 0;", 1);
        due.fault(ahead + "lesson sight 0 ^after 0;", 1);
        due.fault(ahead + "lesson sight 0 ^signs 0;", 1);
        due.fault(ahead + "lesson sight 0 ^sight 0;", 1);
        due.fault(ahead + "lesson ^lesson;", 1);
    }

    @Says(promise = 0, words = "'page' letters {letters} ';'")
    static void aPageClause(Due due) {
        due.reader("word a 1;page a;page a a;");
        due.fault("page^;", 1);
        due.fault("word a 1;page ^0;", 1);
        due.fault("word a 1;page a^,a;", 1);
        due.fault("word a 1;page a ^0;", 1);
        due.fault("word a 1;page a^-;", 1);
    }

    @Says(promise = 0, words = "list = N {',' N}.")
    static void aList(Due due) {
        String ahead = "sign a 1;sign b 2;";
        due.reader(ahead + "lesson signs 0;lesson signs 0,1;lesson signs 1 , 0;");
        due.fault(ahead + "lesson signs ^;", 1);
        due.fault(ahead + "lesson signs ^,0;", 1);
        due.fault(ahead + "lesson signs ^sight 0;", 1);
        due.fault(ahead + "lesson signs 0,^;", 1);
        due.fault(ahead + "lesson signs 0,^,1;", 1);
        due.fault(ahead + "lesson signs 0,^a;", 1);
        due.fault(ahead + "lesson signs 0 ^1;", 1);
        due.fault(ahead + "lesson signs ^-;", 1);
    }

    @Says(promise = 0, words = "clause = 'sign' letters (S | '-') ['start' | 'end'] ';'")
    static void theClausesOwnWordsMayBeLetters(Due due) {
        FirstReader x = due.reader("sign sign 1;sign end - end;word start 1;word lesson 1;page lesson start;");
        due.is("sign(0, 0)", x.sign(0, 0), 4);
        due.is("sign(1, 0)", x.sign(1, 0), 3);
        due.is("page(0, 0)", x.page(0, 0), 1);
    }

    // ---- how many, how long

    @Says(promise = 0, words = "SIGNS (20 at most)")
    static void twentySignsAndOneMore(Due due) {
        due.reader("sign a 1;".repeat(20));
        due.fault("sign a 1;".repeat(20) + "^sign a 1;", 3);
    }

    @Says(promise = 0, words = "have 1 to 4 letters")
    static void aSignOfOneToFourLetters(Due due) {
        FirstReader x = due.reader("sign a 1;sign abcd 1;");
        due.is("sign(0, 0)", x.sign(0, 0), 1);
        due.is("sign(1, 0)", x.sign(1, 0), 4);
        due.fault("sign ^1;", 1);
        due.fault("sign abcd^e 1;", 4);
    }

    @Says(promise = 0, words = "and say a SOUND S (0 .. 29) or nothing ('-')")
    static void aSignsSound(Due due) {
        FirstReader x = due.reader("sign a 0;sign a 29;sign a -;");
        due.row("the sounds", 0, k -> x.sign(k, 1), 0, 29, NONE);
        due.fault("sign a ^30;", 2);
    }

    @Says(promise = 0, words = "at the 'start' or 'end' of a WORD only, if it is told so.")
    static void aSignsPlace(Due due) {
        FirstReader x = due.reader("sign a 1 start;sign a 1 end;sign a 1;word aaa 1;");
        due.row("start", 0, i -> x.fits(0, 0, i), 1, 0, 0);
        due.row("end", 0, i -> x.fits(1, 0, i), 0, 0, 1);
        due.row("anywhere", 0, i -> x.fits(2, 0, i), 1, 1, 1);
    }

    @Says(promise = 0, words = "WORDS (24 at most;")
    static void twentyFourWordsAndOneMore(Due due) {
        due.reader(Texts.words(24));
        due.fault(Texts.words(24) + "^word y 1;", 3);
    }

    @Says(promise = 0, words = "letters all unlike)")
    static void wordsAreUnlikeInTheirLetters(Due due) {
        due.reader("word ab 1;word ba 1;word a 1;word abc 1;word aab 1;");
        due.fault("word ab 1;word ^ab 2;", 5);
    }

    @Says(promise = 0, words = "letters all unlike)")
    static void signsMayBeAlike(Due due) {
        FirstReader x = due.reader("sign a 1;sign a 1;sign a 1 start;");
        due.is("count(0)", x.count(0), 3);
    }

    @Says(promise = 0, words = "have 1 to 8 letters and 1 to 8 SOUNDS.")
    static void aWordOfOneToEightLetters(Due due) {
        FirstReader x = due.reader("word a 1;word abcdefgh 1;");
        due.is("word(0, 0)", x.word(0, 0), 1);
        due.is("word(1, 0)", x.word(1, 0), 8);
        due.fault("word ^1;", 1);
        due.fault("word abcdefgh^i 1;", 4);
    }

    @Says(promise = 0, words = "have 1 to 8 letters and 1 to 8 SOUNDS.")
    static void aWordOfOneToEightSounds(Due due) {
        FirstReader x = due.reader("word a 1;word b 1 2 3 4 5 6 7 8;");
        due.is("word(0, 1)", x.word(0, 1), 1);
        due.is("word(1, 1)", x.word(1, 1), 8);
        due.fault("word a^;", 1);
        due.fault("word a 1 2 3 4 5 6 7 8 ^9;", 4);
    }

    @Says(promise = 0, words = "LESSONS (7 at most)")
    static void sevenLessonsAndOneMore(Due due) {
        due.reader("lesson;".repeat(7));
        due.fault("lesson;".repeat(7) + "^lesson;", 3);
    }

    @Says(promise = 0, words = "come behind LESSONS told ahead")
    static void aLessonComesBehindNoLaterOne(Due due) {
        FirstReader x = due.reader("lesson;lesson;lesson after 1,0;");
        due.is("lesson(2, 0)", x.lesson(2, 0), 3);
        due.fault("lesson after ^0;", 2);
        due.fault("lesson;lesson after ^1;lesson;", 2);
    }

    @Says(promise = 0, words = "teach SIGNS and WORDS by 'sight'.")
    static void aLessonMayTeachAllThereIs(Due due) {
        FirstReader x = due.reader(Texts.lessonOfAll());
        due.is("lesson(0, 1)", x.lesson(0, 1), (1 << 20) - 1);
        due.is("lesson(0, 2)", x.lesson(0, 2), (1 << 24) - 1);
    }

    @Says(promise = 0, words = "PAGES (8 at most)")
    static void eightPagesAndOneMore(Due due) {
        due.reader("word a 1;" + "page a;".repeat(8));
        due.fault("word a 1;" + "page a;".repeat(8) + "^page a;", 3);
    }

    @Says(promise = 0, words = "have 1 to 16 WORDS that are told ahead.")
    static void aPageOfOneToSixteenWords(Due due) {
        FirstReader x = due.reader("word a 1;page a;page" + " a".repeat(16) + ";");
        due.is("page(0, 1)", x.page(0, 1), NONE);
        due.is("page(1, 15)", x.page(1, 15), 0);
        due.fault("word a 1;page^;", 1);
        due.fault("word a 1;page" + " a".repeat(16) + " ^a;", 4);
    }

    @Says(promise = 0, words = "have 1 to 16 WORDS that are told ahead.")
    static void aWordToldBehindThePage(Due due) {
        due.fault("page ^a;word a 1;", 5);
    }

    // ---- numbers, words, blanks

    @Says(promise = 0, words = "NUMBERS have one or two figures;")
    static void oneFigureOrTwo(Due due) {
        FirstReader x = due.reader("sign a 7;sign a 07;sign a 00;sign a 10;");
        due.row("the sounds", 0, k -> x.sign(k, 1), 7, 7, 0, 10);
        due.fault("sign a ^007;", 2);
    }

    @Says(promise = 0, words = "words and letters are a .. z side by side;")
    static void lettersFromAToZ(Due due) {
        FirstReader x = due.reader("sign az 1;word za 1;");
        due.row("the sign's letters", 3, what -> x.sign(0, what), 0, 25);
        due.row("the word's letters", 2, what -> x.word(0, what), 25, 0);
        for (char c : new char[] {'a' - 1, 'z' + 1, 'A', 'Z', '0' - 1, '9' + 1, 128, 'a' + 128, 'z' + 128, 255}) {
            due.fault("sign ^" + c + " 1;", 1);
            due.fault("sign a^" + c + " 1;", 1);
            due.fault("sign a 1^" + c + ";", 1);
        }
    }

    @Says(promise = 0, words = "blanks (32) may stand anywhere but within words and NUMBERS;")
    static void blanksAnywhere(Due due) {
        due.reader("  sign  ab  1  start  ;  word  ab  1  2  ;  lesson  ;  lesson  after  0  signs  0  sight  0  ;"
            + "  lesson after 0  ,  1  ;  page  ab  ab  ;  ");
    }

    @Says(promise = 0, words = "blanks (32) may stand anywhere but within words and NUMBERS;")
    static void noBlanksAtAllWhereNoneIsNeeded(Due due) {
        FirstReader x = due.reader("sign a1start;sign b-end;word ab1 2;lesson signs0,1sight0;lesson after0signs0;page ab;");
        due.is("sign(0, 2)", x.sign(0, 2), 1);
        due.is("sign(1, 2)", x.sign(1, 2), 2);
        due.row("lesson 0", 0, what -> x.lesson(0, what), 0, 3, 1);
        due.row("lesson 1", 0, what -> x.lesson(1, what), 1, 1, 0);
    }

    @Says(promise = 0, words = "blanks (32) may stand anywhere but within words and NUMBERS;")
    static void noBlanksWithinWords(Due due) {
        due.fault("^si gn a 1;", 1);
        due.fault("sign a 1 ^st art;", 1);
        due.fault("sign a ^b 1;", 1);
        due.fault("word a ^b 1;", 1);
        due.fault("lesson ^sig ns 0;", 1);
        due.fault("word ab 1;page ^a b;", 5);
    }

    @Says(promise = 0, words = "blanks (32) may stand anywhere but within words and NUMBERS;")
    static void noBlanksWithinNumbers(Due due) {
        due.fault("sign a 1 ^2;", 1);
        due.fault("lesson;lesson after 0 ^0;", 1);
        FirstReader x = due.reader("word a 1 2;");
        due.is("two sounds", x.word(0, 1), 2);
    }

    @Says(promise = 0, words = "blanks (32)")
    static void noOtherByteIsABlank(Due due) {
        for (char c : new char[] {0, 9, 10, 11, 12, 13, 31, 33, 127, 160, 255}) {
            due.fault("^" + c + "lesson;", 1);
            due.fault("lesson^" + c + ";", 1);
            due.fault("lesson;^" + c, 1);
        }
    }

    @Says(promise = 0, words = "two words, two NUMBERS side by side need one.")
    static void twoWordsNeedABlank(Due due) {
        due.fault("^signa 1;", 1);
        due.fault("^lessonafter 0;", 1);
        due.fault("sign a 1 ^startend;", 1);
        due.fault("word a 1;word b 1;page ^ab;", 5);
    }

    @Says(promise = 0, words = "two words, two NUMBERS side by side need one.")
    static void twoNumbersNeedABlank(Due due) {
        FirstReader x = due.reader("word a 12;word b 1 2;");
        due.is("word(0, 1)", x.word(0, 1), 1);
        due.is("word(1, 1)", x.word(1, 1), 2);
        due.fault("word a ^123;", 2);
    }

    // ---- faults

    @Says(promise = 0, words = "FAULTS, at the first byte that has one")
    static void theFirstByteThatHasOne(Due due) {
        due.fault("word a 1;word ^a 99;", 5);
        due.fault("sign abcd^e;", 4);
        due.fault("sign abcd^e 100;", 4);
        due.fault("sign a ^30 40;", 2);
        due.fault("sign a 1;lesson signs 0,^0,9;", 6);
        due.fault("word a 1;page ^b 1;", 5);
        due.fault("lesson;".repeat(7) + "^lesson 1;", 3);
        due.fault("^sing a 1", 1);
    }

    @Says(promise = 0, words = "(the end at the text's length)")
    static void theEndOfTheText(Due due) {
        for (String text : new String[] {"sign", "sign ", "sign a", "sign a 1", "sign a -", "sign a 1 start", "sign a 1 end ",
            "word", "word a", "word a 1", "word a 1 2 3 4 5 6 7 8", "lesson", "lesson;lesson after", "lesson;lesson after 0",
            "lesson;lesson;lesson after 0,", "page", "word a 1;page a", "word a 1;page" + " a".repeat(16)}) {
            due.fault(text + "^", 1);
        }
    }

    @Says(promise = 0, words = "of these the least")
    static void theLeastAtOneByte(Due due) {
        due.fault("sign ^1000;", 1);
        due.fault("sign a 1;lesson signs 0 ^000;", 1);
        due.fault("word a 1 2 3 4 5 6 7 8 ^30;", 2);
        due.fault("word a 1 2 3 4 5 6 7 8 ^001;", 2);
        due.fault("sign a 1;lesson signs 0,^000;", 2);
        due.fault("word a 1;page" + " a".repeat(16) + " ^b;", 4);
        due.fault("word a 1;page" + " a".repeat(16) + " ^abcdefghi;", 4);
    }

    @Says(promise = 0, words = "1 it cannot stand there")
    static void itCannotStandThere(Due due) {
        due.fault("^;", 1);
        due.fault("lesson;^;", 1);
        due.fault("^1;", 1);
        due.fault("^,", 1);
        due.fault("^-", 1);
        due.fault("lesson;^" + (char) 0, 1);
        due.fault("lesson ^,;", 1);
    }

    @Says(promise = 0, words = "(a word that cannot: at its first letter).")
    static void aWordThatCannotStandThere(Due due) {
        due.fault("^sigs a 1;", 1);
        due.fault("^sig", 1);
        due.fault("^signs a 1;", 1);
        due.fault("lesson;  ^lessons;", 1);
        due.fault("sign a 1 ^starts;", 1);
        due.fault("sign a 1 ^sta;", 1);
        due.fault("sign a 1 ^ends;", 1);
        due.fault("lesson ^afte 0;", 1);
        due.fault("lesson ^sights 0;", 1);
        due.fault("lesson ^abcdefghijkl;", 1);
    }

    @Says(promise = 0, words = "(a word that cannot: at its first letter).")
    static void aWordThatIsAnotherByOneLetter(Due due) {
        String ahead = "sign a 1;word a 1;lesson;";
        for (String[] clause : new String[][] {{"", "sign", " b 1;"}, {"", "word", " b 1;"}, {"", "lesson", ";"}, {"", "page", " a;"},
            {"sign b 1 ", "start", ";"}, {"sign b 1 ", "end", ";"}, {"lesson ", "after", " 0;"}, {"lesson ", "signs", " 0;"},
            {"lesson ", "sight", " 0;"}}) {
            due.reader(ahead + String.join("", clause));
            for (int i = 0; i < clause[1].length(); i++) {
                StringBuilder other = new StringBuilder(clause[1]);
                other.setCharAt(i, 'x');
                due.fault(ahead + clause[0] + "^" + other + clause[2], 1);
            }
        }
    }

    @Says(promise = 0, words = "2 a NUMBER of three figures or more")
    static void aNumberOfThreeFigures(Due due) {
        due.fault("sign a ^100;", 2);
        due.fault("sign a ^000;", 2);
        due.fault("word a 1 ^002;", 2);
        due.fault("lesson;lesson after ^000;", 2);
        due.fault("sign a 1;lesson signs ^000;", 2);
        due.fault("word a 1;lesson sight ^000;", 2);
        due.fault("sign a ^" + "0".repeat(590) + ";", 2);
        due.fault("sign a ^4294967296;", 2);
        due.fault("sign a ^18446744073709551616", 2);
    }

    @Says(promise = 0, words = "or above 29 (a SOUND)")
    static void aSoundAbove29(Due due) {
        due.reader("sign a 29;word a 29 29;");
        due.fault("sign a ^30;", 2);
        due.fault("sign a ^99;", 2);
        due.fault("word a ^30;", 2);
        due.fault("word a 29 ^30;", 2);
    }

    @Says(promise = 0, words = "or of a LESSON, SIGN, WORD that was not told yet (at its first).")
    static void aLessonSignOrWordThatWasNotToldYet(Due due) {
        due.fault("lesson;lesson after 0,^1;", 2);
        due.fault("lesson;lesson;lesson after 0,1,^2;", 2);
        due.fault("lesson signs ^0;sign a 1;", 2);
        due.fault("sign a 1;word a 1;word b 1;lesson signs 0,^1;", 2);
        due.fault("lesson sight ^0;word a 1;", 2);
        due.fault("word a 1;sign a 1;sign a 1;lesson sight 0,^1;", 2);
        due.fault("sign a 1;lesson signs ^99;", 2);
    }

    @Says(promise = 0, words = "3 a SIGN, WORD, LESSON, PAGE too many (at the clause's first letter).")
    static void aClauseTooMany(Due due) {
        due.fault("sign a 1;".repeat(20) + "lesson; ^sign b 2;", 3);
        due.fault(Texts.words(24) + "lesson; ^word a 1;", 3);
        due.fault("lesson;".repeat(7) + "sign a 1; ^lesson after 9;", 3);
        due.fault("word a 1;" + "page a;".repeat(8) + "lesson; ^page;", 3);
    }

    @Says(promise = 0, words = "3 a SIGN, WORD, LESSON, PAGE too many (at the clause's first letter).")
    static void manyOfOneKindLeaveRoomForTheOthers(Due due) {
        FirstReader x = due.reader(Texts.full());
        due.row("count", 0, x::count, 20, 24, 7, 8);
    }

    @Says(promise = 0, words = "4 letters too many, of a SIGN, of a WORD (at its first that is too many);")
    static void lettersTooMany(Due due) {
        due.fault("sign aaaa^a 1;", 4);
        due.fault("sign aaaa^aaaaaa", 4);
        due.fault("word aaaaaaaa^a 1;", 4);
        due.fault("word aaaaaaaa 1;word aaaaaaaa^aaaaa", 4);
    }

    @Says(promise = 0, words = "a ninth SOUND;")
    static void aNinthSound(Due due) {
        due.fault("word a 1 1 1 1 1 1 1 1 ^1;", 4);
        due.fault("word a 1 1 1 1 1 1 1 1  ^29 1 1", 4);
    }

    @Says(promise = 0, words = "a 17th WORD of a PAGE (at its first).")
    static void aSeventeenthWordOfAPage(Due due) {
        due.fault(Texts.words(17) + "page a b c d e f g h i j k l m n o p ^q;", 4);
        due.fault("word ab 1;page" + " ab".repeat(16) + "  ^ab ab", 4);
    }

    @Says(promise = 0, words = "5 a WORD with the letters of another one;")
    static void aWordWithTheLettersOfAnotherOne(Due due) {
        due.fault("word abcdefgh 1;word b 1;word ^abcdefgh 1;", 5);
        due.fault("word a 1;word ^a 2;", 5);
        due.fault("word a 1;word ^a", 5);
    }

    @Says(promise = 0, words = "on a PAGE a WORD that was not told (at its first letter).")
    static void aWordOnAPageThatWasNotTold(Due due) {
        due.fault("sign a 1;page ^a;", 5);
        due.fault("word ab 1;page ab ^a;", 5);
        due.fault("word ab 1;page ^abc;", 5);
        due.fault("word ab 1;page ^ac;", 5);
        due.fault("word ab 1;page ^abcdefghij;", 5);
        due.fault("page ^page;", 5);
    }

    @Says(promise = 0, words = "6 a NUMBER again in its list (at its first).")
    static void aNumberAgainInItsList(Due due) {
        due.fault("lesson;lesson after 0,^0;", 6);
        due.fault("sign a 1;sign a 1;lesson signs 1,0, ^1;", 6);
        due.fault("word a 1;lesson sight 0,^00;", 6);
    }

    @Says(promise = 0, words = "6 a NUMBER again in its list (at its first).")
    static void aNumberAgainInAnotherListIsNoFault(Due due) {
        due.reader("sign a 1;word a 1;lesson;lesson after 0 signs 0 sight 0;lesson after 0 signs 0 sight 0;");
    }
}
