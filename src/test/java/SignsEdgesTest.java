/** Section 2 of the opening part up to SPELT, and promises 10 to 15, sentence by sentence. */
public final class SignsEdgesTest {
    private static final int NONE = FirstReader.NONE, UNKNOWN = FirstReader.UNKNOWN, OUTSIDE = FirstReader.OUTSIDE;
    private static final int ALL_SIGNS = (1 << 20) - 1;

    public static void main(String[] args) throws Exception {
        Edges.run(SignsEdgesTest.class);
    }

    // ---- section 2: fits, cuts

    @Says(promise = 0, words = "FITS: a SIGN at a place of a WORD, if its letters stand there")
    static void aSignFitsWhereItsLettersStand(Due due) {
        FirstReader x = due.reader("sign ab 1;word abcab 1;");
        due.row("fits", 0, i -> x.fits(0, 0, i), 1, 0, 0, 1, 0);
    }

    @Says(promise = 0, words = "FITS: a SIGN at a place of a WORD, if its letters stand there")
    static void aSignThatRunsBeyondTheWordDoesNotFit(Due due) {
        FirstReader x = due.reader("sign ab 1;sign abab 1;word aba 1;word ab 1;word a 1;word abababab 1;");
        due.row("ab in aba", 0, i -> x.fits(0, 0, i), 1, 0, 0);
        due.is("abab in aba", x.fits(1, 0, 0), 0);
        due.is("ab in ab", x.fits(0, 1, 0), 1);
        due.is("ab in a", x.fits(0, 2, 0), 0);
        due.row("abab in eight letters", 4, i -> x.fits(1, 3, i), 1, 0, 0, 0);
    }

    @Says(promise = 0, words = "and it is at the WORD's first letter, if it is for the 'start'")
    static void aSignForTheStartFitsAtTheFirstLetterOnly(Due due) {
        FirstReader x = due.reader("sign a 1 start;sign ab 1 start;word aba 1;word ab 1;");
        due.row("a", 0, i -> x.fits(0, 0, i), 1, 0, 0);
        due.row("ab", 0, i -> x.fits(1, 0, i), 1, 0, 0);
        due.is("ab as the whole word", x.fits(1, 1, 0), 1);
    }

    @Says(promise = 0, words = "with its last letter at the WORD's last, if it is for the 'end'.")
    static void aSignForTheEndFitsAtTheLastLetterOnly(Due due) {
        FirstReader x = due.reader("sign a 1 end;sign ba 1 end;word baba 1;word ba 1;word bab 1;");
        due.row("a", 0, i -> x.fits(0, 0, i), 0, 0, 0, 1);
        due.row("ba", 0, i -> x.fits(1, 0, i), 0, 0, 1, 0);
        due.is("ba as the whole word", x.fits(1, 1, 0), 1);
        due.row("neither in bab", 0, i -> x.fits(1, 2, i), 0, 0, 0);
    }

    @Says(promise = 0, words = "A CUT of a WORD by a SET of SIGNS: SIGNS of it that FIT one behind the other")
    static void signsOutOfTheSetMakeNoCut(Due due) {
        FirstReader x = due.reader("sign a 1;sign b 2;word ab 1 2;");
        due.row("ways", 0, set -> x.ways(0, set), 0, 0, 0, 1);
    }

    @Says(promise = 0, words = "A CUT of a WORD by a SET of SIGNS: SIGNS of it that FIT one behind the other")
    static void signsThatDoNotFitMakeNoCut(Due due) {
        FirstReader x = due.reader("sign a 1 start;sign b 2 end;word ab 1 2;word ba 2 1;word aab 1 1 2;");
        due.row("ways", 0, w -> x.ways(w, 3), 1, 0, 0);
    }

    @Says(promise = 0, words = "from the first letter to the last")
    static void aCutLeavesNoLetterOut(Due due) {
        FirstReader x = due.reader("sign a 1;word ab 1;word ba 1;word aba 1 1;word a 1;");
        due.row("ways", 0, w -> x.ways(w, 1), 0, 0, 0, 1);
    }

    @Says(promise = 0, words = "and say its SOUNDS, in order.")
    static void aCutSaysJustTheSounds(Due due) {
        FirstReader x = due.reader("sign a 1;sign b 2;sign c -;word ab 1 2;word aba 2 1 1;word abb 1 2;word ba 2 1 1;word cacb 1 2;");
        due.row("ways", 0, w -> x.ways(w, 7), 1, 0, 0, 0, 1);
    }

    @Says(promise = 0, words = "and say its SOUNDS, in order.")
    static void signsThatSayNothingAloneMakeNoCut(Due due) {
        FirstReader x = due.reader("sign a -;word a 1;word aa 1;");
        due.row("ways", 0, w -> x.ways(w, 1), 0, 0);
    }

    @Says(promise = 0, words = "WAYS: how many CUTS.")
    static void asManyWaysAsThereMayBe(Due due) {
        FirstReader x = due.reader("sign a 1;".repeat(20) + "word aaaaaaaa 1 1 1 1 1 1 1 1;");
        due.is("ways", x.ways(0, ALL_SIGNS), 25_600_000_000L);
    }

    @Says(promise = 0, words = "WAYS: how many CUTS.")
    static void cutsOfOneWordAreNotThoseOfAnother(Due due) {
        FirstReader x = due.reader("sign a 1;sign a -;word aa 1;word ab 1;word a 1 1;word aaa 1 1;");
        int[] ways = {2, 0, 0, 3};
        for (int first = 0; first < 4; first++) {
            for (int second = 0; second < 4; second++) {
                due.is("ways(" + first + ", 3)", x.ways(first, 3), ways[first]);
                due.is("ways(" + second + ", 3), behind it", x.ways(second, 3), ways[second]);
            }
        }
    }

    // ---- section 2: aloud

    @Says(promise = 0, words = "of SIGNS of the SET that FIT the one with the most letters")
    static void aloudTakesTheMostLettersThatFit(Due due) {
        FirstReader x = due.reader("sign a 1;sign ab 2;sign abc 3 end;sign abcd 4;word abca 2;word abcd 4;");
        due.is("abc is for the end, abcd does not stand there", x.aloud(0, 15, 0), 2);
        due.is("abcd", x.aloud(1, 15, 0), 4);
        due.is("abcd is not of the SET", x.aloud(1, 7, 0), 2);
    }

    @Says(promise = 0, words = "(of like ones the least number);")
    static void ofLikeOnesTheLeastNumber(Due due) {
        FirstReader x = due.reader("sign b 9;sign a 1;sign a 2;sign a 3 start;word a 1;");
        due.is("all", x.aloud(0, 15, 0), 1);
        due.is("without the least", x.aloud(0, 13, 0), 2);
        due.is("the last one", x.aloud(0, 8, 0), 3);
    }

    @Says(promise = 0, words = {"ALOUD by a SET of SIGNS: from the first letter on:", "its SOUND comes out; on behind it;"})
    static void aloudGoesOnBehindTheSign(Due due) {
        FirstReader x = due.reader("sign a 1;sign ab 2;sign b 3;sign c -;word abbacab 1;");
        due.row("aloud", NONE, j -> x.aloud(0, 15, j), 4, 2, 3, 1, 2, NONE);
    }

    @Says(promise = 0, words = "if none FITS it ends there.")
    static void aloudEndsWhereNoneFits(Due due) {
        FirstReader x = due.reader("sign a 1;sign b 2 start;word aaba 1;word ba 1;word caa 1;");
        due.row("aaba", NONE, j -> x.aloud(0, 3, j), 2, 1, 1, NONE);
        due.row("ba", NONE, j -> x.aloud(1, 3, j), 2, 2, 1, NONE);
        due.row("caa", NONE, j -> x.aloud(2, 3, j), 0, NONE);
        due.row("no signs", NONE, j -> x.aloud(0, 0, j), 0, NONE);
    }

    @Says(promise = 0, words = "RIGHT is it, if it came to the WORD's end and the SOUNDS are the WORD's.")
    static void rightCameToTheEnd(Due due) {
        FirstReader x = due.reader("sign a 1;sign b 2;word ab 1 2;word abc 1 2;");
        due.is("ab", x.right(0, 3, 0), 1);
        due.is("the SOUNDS are abc's, but it did not come to its end", x.right(1, 3, 0), 0);
    }

    @Says(promise = 0, words = "RIGHT is it, if it came to the WORD's end and the SOUNDS are the WORD's.")
    static void rightHasTheSounds(Due due) {
        FirstReader x = due.reader("sign a 1;sign b 2;word ab 1 2;word ba 1 2;word a 1 2;word aba 1 2;word aab 1 1 1;");
        due.row("right", 0, w -> x.right(w, 3, 0), 1, 0, 0, 0, 0);
    }

    @Says(promise = 0, words = "RIGHT is it, if it came to the WORD's end and the SOUNDS are the WORD's.")
    static void rightOfEightLettersAndSounds(Due due) {
        FirstReader x = due.reader("sign a 1;sign b 2;word aaaaaaaa 1 1 1 1 1 1 1 1;word aaaaaaab 1 1 1 1 1 1 1 1;");
        due.is("all alike", x.right(0, 3, 0), 1);
        due.is("the last is another", x.right(1, 3, 0), 0);
    }

    @Says(promise = 0, words = "RIGHT is it, if it came to the WORD's end and the SOUNDS are the WORD's.")
    static void aWordWithACutNeedNotComeOutRight(Due due) {
        FirstReader x = due.reader("sign a 1;sign b 2;sign ab 3;word ab 1 2;");
        due.is("there is a CUT", x.right(0, 7, 2), 1);
        due.is("ALOUD is not RIGHT", x.right(0, 7, 0), 0);
    }

    // ---- section 2: spelt

    @Says(promise = 0, words = {"SPELT by a SET of SIGNS: from the first SOUND on:", "the SIGN with the least number of the SET that says that SOUND"})
    static void speltTakesTheLeastNumber(Due due) {
        FirstReader x = due.reader("sign z 9;sign ab 1;sign a 1;sign b -;word a 1;");
        due.row("all", NONE, j -> x.spelt(0, 15, j), 2, 0, 1, NONE);
        due.row("without it", NONE, j -> x.spelt(0, 13, j), 1, 0, NONE);
    }

    @Says(promise = 0, words = "(one for the 'start' only for the first, one for the 'end' only for the last SOUND);")
    static void speltMindsThePlaces(Due due) {
        FirstReader x = due.reader("sign s 1 start;sign e 1 end;sign m 1;word a 1 1 1;");
        due.row("start, anywhere, end", NONE, j -> x.spelt(0, 7, j), 3, 's' - 'a', 'm' - 'a', 'e' - 'a', NONE);
        due.row("the second has none", NONE, j -> x.spelt(0, 3, j), 1, 's' - 'a', NONE);
        due.row("the first has none", NONE, j -> x.spelt(0, 2, j), 0, NONE);
    }

    @Says(promise = 0, words = "(one for the 'start' only for the first, one for the 'end' only for the last SOUND);")
    static void theOnlySoundIsFirstAndLast(Due due) {
        FirstReader x = due.reader("sign e 1 end;sign s 1 start;word a 1;");
        due.is("the end", x.spelt(0, 3, 0), 'e' - 'a');
        due.is("the start", x.spelt(0, 2, 0), 's' - 'a');
    }

    @Says(promise = 0, words = "its letters; if there is none it ends there.")
    static void speltEndsWhereThereIsNone(Due due) {
        FirstReader x = due.reader("sign ab 1;sign c 2;word a 1 3 2;word b 3;");
        due.row("at the second", NONE, j -> x.spelt(0, 3, j), 2, 0, 1, NONE);
        due.row("at the first", NONE, j -> x.spelt(1, 3, j), 0, NONE);
    }

    @Says(promise = 0, words = "its letters; if there is none it ends there.")
    static void asManyLettersAsThereMayBe(Due due) {
        FirstReader x = due.reader("sign abcd 1;word a 1 1 1 1 1 1 1 1;");
        due.is("how many", x.spelt(0, 1, NONE), 32);
        due.is("the last", x.spelt(0, 1, 31), 3);
        due.is("behind it", x.spelt(0, 1, 32), NONE);
    }

    @Says(promise = 0, words = "WELL, if it came to the last SOUND and the letters are the WORD's.")
    static void wellCameToTheLastSound(Due due) {
        FirstReader x = due.reader("sign ab 1;word ab 1 2;sign abc 1;word abc 1;");
        due.is("abc is WELL", x.right(1, 2, 1), 1);
        due.is("the letters are the WORD's, but a SOUND is left", x.right(0, 1, 1), 0);
    }

    @Says(promise = 0, words = "WELL, if it came to the last SOUND and the letters are the WORD's.")
    static void wellHasTheLetters(Due due) {
        FirstReader x = due.reader("sign ab 1;sign c 2;word abc 1 2;word ab 1 2;word abcc 1 2;word abd 1 2;word cab 1 2;");
        due.row("well", 0, w -> x.right(w, 3, 1), 1, 0, 0, 0, 0);
    }

    // ---- 10 fits

    @Says(promise = 10, words = "Whether a SIGN FITS at letter i of a WORD: 1, 0.")
    static void fitsIsOneOrZero(Due due) {
        FirstReader x = due.reader("sign b 1;word abcdefgb 1;");
        due.row("fits", 0, i -> x.fits(0, 0, i), 0, 1, 0, 0, 0, 0, 0, 1);
    }

    @Says(promise = 10, words = "Whether a SIGN FITS at letter i of a WORD: 1, 0.")
    static void theTwentiethSignFits(Due due) {
        FirstReader x = due.reader("sign a 1;".repeat(19) + "sign b 1;word ab 1;");
        due.is("fits(19, 0, 0)", x.fits(19, 0, 0), 0);
        due.is("fits(19, 0, 1)", x.fits(19, 0, 1), 1);
    }

    @Says(promise = 10, words = "Whether a SIGN FITS at letter i of a WORD: 1, 0.")
    static void aSignToldBehindTheWordFits(Due due) {
        FirstReader x = due.reader("word a 1;sign a 1;");
        due.is("fits(0, 0, 0)", x.fits(0, 0, 0), 1);
    }

    @Says(promise = 10, words = "UNKNOWN")
    static void fitsOfASignOrWordThatThereIsNot(Due due) {
        FirstReader x = due.reader("sign a 1;sign b 1;word a 1;");
        due.is("fits(2, 0, 0)", x.fits(2, 0, 0), UNKNOWN);
        due.is("fits(-1, 0, 0)", x.fits(-1, 0, 0), UNKNOWN);
        due.is("fits(0, 1, 0)", x.fits(0, 1, 0), UNKNOWN);
        due.is("fits(0, -1, 0)", x.fits(0, -1, 0), UNKNOWN);
    }

    @Says(promise = 10, words = "OUTSIDE (i).")
    static void aLetterThatTheWordDoesNotHave(Due due) {
        FirstReader x = due.reader("sign a 1;word aaa 1;word aaaaaaaa 1;");
        due.is("fits(0, 0, -1)", x.fits(0, 0, -1), OUTSIDE);
        due.is("fits(0, 0, 2)", x.fits(0, 0, 2), 1);
        due.is("fits(0, 0, 3)", x.fits(0, 0, 3), OUTSIDE);
        due.is("fits(0, 1, 7)", x.fits(0, 1, 7), 1);
        due.is("fits(0, 1, 8)", x.fits(0, 1, 8), OUTSIDE);
    }

    // ---- 11 ways

    @Says(promise = 11, words = "WAYS by a SET of SIGNS.")
    static void waysByTheEmptySetAndByAll(Due due) {
        FirstReader x = due.reader("sign a 1;sign a 1;word a 1;");
        due.is("ways(0, 0)", x.ways(0, 0), 0);
        due.is("ways(0, 3)", x.ways(0, 3), 2);
    }

    @Says(promise = 11, words = "UNKNOWN.")
    static void waysOfAWordOrBySignsThatThereAreNot(Due due) {
        FirstReader x = due.reader("sign a 1;sign a 1;word a 1;");
        due.is("ways(1, 0)", x.ways(1, 0), UNKNOWN);
        due.is("ways(-1, 0)", x.ways(-1, 0), UNKNOWN);
        due.is("ways(0, 4)", x.ways(0, 4), UNKNOWN);
        due.is("ways(0, -1)", x.ways(0, -1), UNKNOWN);
    }

    // ---- 12 cut

    @Says(promise = 12, words = "SIGN j of the first CUT by a SET (SIGN by SIGN the lesser number ahead);")
    static void theLesserNumberAhead(Due due) {
        FirstReader x = due.reader("sign c 3;sign ab 1;sign a 1;sign b -;sign bc 3;word abc 1 3;");
        due.row("ab c is ahead of a b c and a bc", NONE, j -> x.cut(0, 31, j), 2, 1, 0, NONE);
        due.row("a b c is ahead of a bc", NONE, j -> x.cut(0, 29, j), 3, 2, 3, 0, NONE);
        due.row("a bc", NONE, j -> x.cut(0, 28, j), 2, 2, 4, NONE);
    }

    @Says(promise = 12, words = "SIGN j of the first CUT by a SET (SIGN by SIGN the lesser number ahead);")
    static void aLesserNumberThatLeadsNowhereIsPassedOver(Due due) {
        FirstReader x = due.reader("sign a -;sign a 1;sign ab 1;word ab 1;word aa 1;");
        due.row("ab", NONE, j -> x.cut(0, 7, j), 1, 2, NONE);
        due.row("aa", NONE, j -> x.cut(1, 7, j), 2, 0, 1, NONE);
    }

    @Says(promise = 12, words = "j = NONE: how many it has;")
    static void howManySignsTheFirstCutHas(Due due) {
        FirstReader x = due.reader("sign a 1;sign aa 1;word aaaaaaaa 1 1 1 1 1 1 1 1;word aa 1;");
        due.is("eight", x.cut(0, 3, NONE), 8);
        due.is("the eighth", x.cut(0, 3, 7), 0);
        due.is("one", x.cut(1, 3, NONE), 1);
    }

    @Says(promise = 12, words = "NONE. UNKNOWN.")
    static void noSignThere(Due due) {
        FirstReader x = due.reader("sign a 1;word a 1;");
        due.is("behind the last", x.cut(0, 1, 1), NONE);
        due.is("far behind", x.cut(0, 1, Integer.MAX_VALUE), NONE);
        due.is("ahead of the first", x.cut(0, 1, -2), NONE);
        due.is("far ahead", x.cut(0, 1, Integer.MIN_VALUE), NONE);
    }

    @Says(promise = 12, words = "NONE. UNKNOWN.")
    static void noCut(Due due) {
        FirstReader x = due.reader("sign a 1;word a 1;word b 1;");
        due.is("the first CUT", x.cut(0, 1, NONE), 1);
        due.row("no signs", NONE, j -> x.cut(0, 0, j), NONE, NONE, NONE);
        due.row("no sign fits", NONE, j -> x.cut(1, 1, j), NONE, NONE, NONE);
    }

    @Says(promise = 12, words = "UNKNOWN.")
    static void cutOfAWordOrBySignsThatThereAreNot(Due due) {
        FirstReader x = due.reader("sign a 1;word a 1;");
        due.is("cut(1, 1, NONE)", x.cut(1, 1, NONE), UNKNOWN);
        due.is("cut(0, 2, NONE)", x.cut(0, 2, NONE), UNKNOWN);
        due.is("cut(0, -1, 9)", x.cut(0, -1, 9), UNKNOWN);
    }

    // ---- 13 aloud

    @Says(promise = 13, words = "ALOUD: j = NONE how many SOUNDS")
    static void howManySoundsComeOut(Due due) {
        FirstReader x = due.reader("sign a 1;sign b -;word aaaaaaaa 1;word bbb 1;word aba 1;");
        due.is("eight", x.aloud(0, 3, NONE), 8);
        due.is("none, as the signs say nothing", x.aloud(1, 3, NONE), 0);
        due.is("two", x.aloud(2, 3, NONE), 2);
        due.is("none, without signs", x.aloud(0, 0, NONE), 0);
    }

    @Says(promise = 13, words = "else the j-th; NONE.")
    static void theSoundsOneByOne(Due due) {
        FirstReader x = due.reader("sign a 0;sign b 29;word abaaaaab 1;");
        due.row("aloud", -2, j -> x.aloud(0, 3, j), NONE, 8, 0, 29, 0, 0, 0, 0, 0, 29, NONE);
        due.is("far behind", x.aloud(0, 3, Integer.MAX_VALUE), NONE);
        due.is("far ahead", x.aloud(0, 3, Integer.MIN_VALUE), NONE);
    }

    @Says(promise = 13, words = "UNKNOWN.")
    static void aloudOfAWordOrBySignsThatThereAreNot(Due due) {
        FirstReader x = due.reader("sign a 1;word a 1;");
        due.is("aloud(1, 1, NONE)", x.aloud(1, 1, NONE), UNKNOWN);
        due.is("aloud(0, 2, NONE)", x.aloud(0, 2, NONE), UNKNOWN);
        due.is("aloud(0, -1, 9)", x.aloud(0, -1, 9), UNKNOWN);
    }

    // ---- 14 right

    @Says(promise = 14, words = {"Whether ALOUD is RIGHT (what = 0)", ": 1, 0."})
    static void aloudAloneIsRight(Due due) {
        FirstReader x = due.reader("sign b 1;sign a 1;word a 1;");
        due.row("right, not WELL", 0, what -> x.right(0, 3, what), 1, 0, 1);
        due.is("without its sign", x.right(0, 1, 0), 0);
    }

    @Says(promise = 14, words = "SPELT is WELL (1)")
    static void speltAloneIsWell(Due due) {
        FirstReader x = due.reader("sign a 1;sign b 2;sign ab 3;word ab 1 2;word ac 1;sign ac 1 end;");
        due.row("WELL and cut, not right", 0, what -> x.right(0, 7, what), 0, 1, 1);
        due.row("right and cut, not WELL", 0, what -> x.right(1, 15, what), 1, 0, 1);
    }

    @Says(promise = 14, words = "there is some CUT (2)")
    static void aCutAlone(Due due) {
        FirstReader x = due.reader("sign ab 3;sign z 1;sign a 1;sign b 2;word ab 1 2;word c 3;");
        due.row("a CUT alone", 0, what -> x.right(0, 15, what), 0, 0, 1);
        due.row("not even that", 0, what -> x.right(1, 15, what), 0, 0, 0);
    }

    @Says(promise = 14, words = "there is some CUT (2)")
    static void asManyCutsAsThereMayBeAreSome(Due due) {
        FirstReader x = due.reader("sign a 1;".repeat(16) + "word aaaaaaaa 1 1 1 1 1 1 1 1;");
        due.is("2 to the 32nd ways", x.ways(0, (1 << 16) - 1), 1L << 32);
        due.is("right(0, all, 2)", x.right(0, (1 << 16) - 1, 2), 1);
        due.is("cut(0, all, NONE)", x.cut(0, (1 << 16) - 1, NONE), 8);
    }

    @Says(promise = 14, words = "UNKNOWN")
    static void rightOfAWordOrBySignsThatThereAreNot(Due due) {
        FirstReader x = due.reader("sign a 1;word a 1;");
        for (int what = 0; what < 3; what++) {
            due.is("right(1, 1, " + what + ")", x.right(1, 1, what), UNKNOWN);
            due.is("right(-1, 1, " + what + ")", x.right(-1, 1, what), UNKNOWN);
            due.is("right(0, 2, " + what + ")", x.right(0, 2, what), UNKNOWN);
            due.is("right(0, -1, " + what + ")", x.right(0, -1, what), UNKNOWN);
        }
    }

    @Says(promise = 14, words = "OUTSIDE.")
    static void whatIsRightIsOutside(Due due) {
        FirstReader x = due.reader("sign a 1;word a 1;");
        due.is("right(0, 1, -1)", x.right(0, 1, -1), OUTSIDE);
        due.is("right(0, 1, 3)", x.right(0, 1, 3), OUTSIDE);
    }

    // ---- 15 spelt

    @Says(promise = 15, words = "SPELT: j = NONE how many letters")
    static void howManyLettersAreSpelt(Due due) {
        FirstReader x = due.reader("sign abc 1;word a 1 1;word b 2;");
        due.is("six", x.spelt(0, 1, NONE), 6);
        due.is("none", x.spelt(1, 1, NONE), 0);
        due.is("none, without signs", x.spelt(0, 0, NONE), 0);
    }

    @Says(promise = 15, words = "else the j-th; NONE.")
    static void theLettersOneByOne(Due due) {
        FirstReader x = due.reader("sign az 1;word a 1 1;");
        due.row("spelt", -2, j -> x.spelt(0, 1, j), NONE, 4, 0, 25, 0, 25, NONE);
        due.is("far behind", x.spelt(0, 1, Integer.MAX_VALUE), NONE);
        due.is("far ahead", x.spelt(0, 1, Integer.MIN_VALUE), NONE);
    }

    @Says(promise = 15, words = "UNKNOWN.")
    static void speltOfAWordOrBySignsThatThereAreNot(Due due) {
        FirstReader x = due.reader("sign a 1;word a 1;");
        due.is("spelt(1, 1, NONE)", x.spelt(1, 1, NONE), UNKNOWN);
        due.is("spelt(0, 2, NONE)", x.spelt(0, 2, NONE), UNKNOWN);
        due.is("spelt(0, -1, 9)", x.spelt(0, -1, 9), UNKNOWN);
    }
}
