/** Promises 10 to 15: where signs fit, cuts, and how words come out and are spelt. */
public final class SignsTest {
    private static final int NONE = FirstReader.NONE, UNKNOWN = FirstReader.UNKNOWN, OUTSIDE = FirstReader.OUTSIDE;
    private static final Due due = new Due("SignsTest");

    public static void main(String[] args) {
        fitsByLettersAndPlace();
        fitsRefuses();
        waysCountsCuts();
        waysAreMany();
        waysOfOneWordLeaveNothingForAnother();
        cutIsTheFirst();
        aloudTakesTheLongest();
        aloudEndsWhereNoneFits();
        rightIsOfThreeKinds();
        speltTakesTheLeast();
        setsAreRefused();
        due.end();
    }

    private static void fitsByLettersAndPlace() {
        // signs told behind the words fit all the same
        FirstReader x = due.reader("word aba 1;word ab 2;sign a 1;sign a 1 start;sign a 1 end;sign ab 2 end;sign aba 1 start;"
            + "sign ba 3;sign abab 1;", 9);
        int[][] ofAba = {{1, 0, 1}, {1, 0, 0}, {0, 0, 1}, {0, 0, 0}, {1, 0, 0}, {0, 1, 0}, {0, 0, 0}};
        int[][] ofAb = {{1, 0}, {1, 0}, {0, 0}, {1, 0}, {0, 0}, {0, 0}, {0, 0}};
        for (int k = 0; k < 7; k++) {
            for (int i = 0; i < 3; i++) {
                due.is("fits(" + k + ", 0, " + i + ")", x.fits(k, 0, i), ofAba[k][i]);
            }
            for (int i = 0; i < 2; i++) {
                due.is("fits(" + k + ", 1, " + i + ")", x.fits(k, 1, i), ofAb[k][i]);
            }
        }
    }

    private static void fitsRefuses() {
        FirstReader x = due.reader("sign a 1;word ab 1;word abcdefgh 1;", 3);
        due.is("fits(0, 0, -1)", x.fits(0, 0, -1), OUTSIDE);
        due.is("fits(0, 0, 2)", x.fits(0, 0, 2), OUTSIDE);
        due.is("fits(0, 1, 7)", x.fits(0, 1, 7), 0);
        due.is("fits(0, 1, 8)", x.fits(0, 1, 8), OUTSIDE);
        due.is("fits(1, 0, 0)", x.fits(1, 0, 0), UNKNOWN);
        due.is("fits(-1, 0, 0)", x.fits(-1, 0, 0), UNKNOWN);
        due.is("fits(0, 2, 0)", x.fits(0, 2, 0), UNKNOWN);
        due.is("fits(0, -1, 9)", x.fits(0, -1, 9), UNKNOWN);
        due.is("fits(0, 0, max)", x.fits(0, 0, Integer.MAX_VALUE), OUTSIDE);
    }

    private static void waysCountsCuts() {
        FirstReader x = due.reader("sign a 1;sign b 2;sign ab 3;sign a - start;sign b - end;sign ab 2;"
            + "word ab 1 2;word abab 3 3;word ba 2 1;word abb 2;", 10);
        due.is("ways(0, 0)", x.ways(0, 0), 0);
        due.is("ways(0, 3)", x.ways(0, 3), 1);
        due.is("ways(0, 63)", x.ways(0, 63), 1);
        due.is("ways(1, 63)", x.ways(1, 63), 1);
        due.is("ways(1, 3)", x.ways(1, 3), 0);
        due.is("ways(2, 63)", x.ways(2, 63), 1);
        due.is("ways(3, 63)", x.ways(3, 63), 2);
        due.is("ways(3, 26)", x.ways(3, 26), 1);
        due.is("ways(3, 48)", x.ways(3, 48), 1);
    }

    private static void waysAreMany() {
        FirstReader x = due.reader("sign a 1;".repeat(20) + "word aaaaaaaa 1 1 1 1 1 1 1 1;word a 1;word aaaa 1 1 1 2;", 23);
        due.is("ways(0, all)", x.ways(0, (1 << 20) - 1), 25600000000L);
        due.is("ways(1, all)", x.ways(1, (1 << 20) - 1), 20);
        due.is("ways(2, all)", x.ways(2, (1 << 20) - 1), 0);
        due.is("ways(0, one)", x.ways(0, 1 << 19), 1);
        due.row("all kinds of right, with eight letters and eight sounds", 0, what -> x.right(0, 1 << 19, what), 1, 1, 1);
        due.is("the eighth sound", x.aloud(0, 1, 7), 1);
        due.is("cut(0, one)", x.cut(0, 1 << 19, 7), 19);
    }

    private static void waysOfOneWordLeaveNothingForAnother() {
        FirstReader x = due.reader("sign a 1;sign a -;word aa 1;word ab 1;word a 1 1;word aaa 1 1;word aaaa 1;", 7);
        int[] want = {2, 0, 0, 3, 4};
        for (int first = 0; first < 5; first++) {
            for (int second = 0; second < 5; second++) {
                due.is("ways(" + first + ")", x.ways(first, 3), want[first]);
                due.is("ways(" + second + ") behind it", x.ways(second, 3), want[second]);
                due.is("ways(" + second + ") without silence", x.ways(second, 1), 0);
            }
        }
    }

    private static void cutIsTheFirst() {
        FirstReader x = due.reader("sign bc 2;sign a 1;sign b 2;sign ab 1;sign c 2;sign c -;word abc 1 2;word abcb 1 2;word bcb 2 1;", 9);
        // a bc = 1 0 is ahead of a b c(silent) = 1 2 5, and of ab c = 3 4
        due.is("ways(0, 63)", x.ways(0, 63), 3);
        due.row("cut(0, 63)", -2, j -> x.cut(0, 63, j), NONE, 2, 1, 0, NONE, NONE);
        due.row("cut(0, 62)", -2, j -> x.cut(0, 62, j), NONE, 3, 1, 2, 5, NONE);
        due.row("cut(0, 24)", -1, j -> x.cut(0, 24, j), 2, 3, 4, NONE);
        due.row("cut(0, 5)", -2, j -> x.cut(0, 5, j), NONE, NONE, NONE, NONE);
        due.row("cut(1, 63)", -2, j -> x.cut(1, 63, j), NONE, 3, 3, 5, 2, NONE);
        due.row("cut(2, 63)", -2, j -> x.cut(2, 63, j), NONE, NONE, NONE, NONE);
        due.is("cut(0, 63, max)", x.cut(0, 63, Integer.MAX_VALUE), NONE);
        due.is("cut(0, 63, min)", x.cut(0, 63, Integer.MIN_VALUE), NONE);
    }

    private static void aloudTakesTheLongest() {
        FirstReader x = due.reader("sign a 1;sign ab 2;sign ab 3;sign abc 4 start;sign c 5;sign c - end;sign cab 6;"
            + "word abcabc 4 3;word cabc 6 5;", 9);
        due.row("aloud(0, 127)", -2, j -> x.aloud(0, 127, j), NONE, 3, 4, 2, 5, NONE);
        // the least number of like ones: c 5 ahead of c -
        due.row("aloud(1, 127)", -1, j -> x.aloud(1, 127, j), 2, 6, 5, NONE);
        due.row("aloud(0, without c 5)", -1, j -> x.aloud(0, 111, j), 2, 4, 2, NONE);
        due.row("aloud(0, without abc)", -1, j -> x.aloud(0, 55, j), 4, 2, 5, 2, 5, NONE);
        due.row("aloud(0, without ab 2, c 5)", -1, j -> x.aloud(0, 109, j), 2, 4, 3, NONE);
        due.is("right", x.right(0, 109, 0), 1);
        due.is("right", x.right(0, 111, 0), 0);
    }

    private static void aloudEndsWhereNoneFits() {
        FirstReader x = due.reader("sign a 1;sign b 2;sign c -;word abca 1 2;word abc 1 2;word a 1;", 6);
        due.row("aloud(0, a b)", -1, j -> x.aloud(0, 3, j), 2, 1, 2, NONE);
        due.is("it did not come to the end", x.right(0, 3, 0), 0);
        due.row("aloud(0, all)", -1, j -> x.aloud(0, 7, j), 3, 1, 2, 1, NONE);
        due.is("too many sounds", x.right(0, 7, 0), 0);
        due.is("silent c to the end", x.right(1, 7, 0), 1);
        due.row("aloud(2, none)", -1, j -> x.aloud(2, 0, j), 0, NONE);
        due.is("right(2, none)", x.right(2, 0, 0), 0);
        due.row("aloud(2, a)", -1, j -> x.aloud(2, 1, j), 1, 1, NONE);
    }

    private static void rightIsOfThreeKinds() {
        FirstReader x = due.reader("sign a 1;sign b 2;sign ab 3;word ab 1 2;word abc 3;", 5);
        due.row("right(0, a b)", -1, what -> x.right(0, 3, what), OUTSIDE, 1, 1, 1, OUTSIDE);
        due.row("right(0, all)", 0, what -> x.right(0, 7, what), 0, 1, 1);
        due.row("right(0, a)", 0, what -> x.right(0, 1, what), 0, 0, 0);
        due.row("right(1, all)", 0, what -> x.right(1, 7, what), 0, 0, 0);
        due.is("right(2, 0, 3)", x.right(2, 0, 3), UNKNOWN);
        due.is("right(0, 8, 3)", x.right(0, 8, 3), UNKNOWN);
    }

    private static void speltTakesTheLeast() {
        FirstReader x = due.reader("sign qu 1 start;sign k 1 end;sign ck 1;sign e -;sign abcd 2;sign z 2 end;sign y 2;"
            + "word quck 1 1;word abcdck 2 1;word k 1;word zz 1 1 1 2;word abcdckk 2 1;", 12);
        due.row("first and last", -2, j -> x.spelt(0, 127, j), NONE, 3, 16, 20, 10, NONE);
        due.row("spelt(0, without k)", -1, j -> x.spelt(0, 125, j), 4, 16, 20, 2, 10, NONE);
        due.is("well", x.right(0, 125, 1), 1);
        due.is("not well", x.right(0, 127, 1), 0);
        due.row("spelt(1, without k)", -1, j -> x.spelt(1, 125, j), 6, 0, 1, 2, 3, 2, 10, NONE);
        due.is("well", x.right(1, 125, 1), 1);
        due.is("letters too few", x.right(4, 125, 1), 0);
        due.row("the only sound is first and last: the least", -1, j -> x.spelt(2, 127, j), 2, 16, 20, NONE);
        due.row("the only sound is first and last: end", -1, j -> x.spelt(2, 126, j), 1, 10, NONE);
        due.row("the middle takes ck", -1, j -> x.spelt(3, 127, j), 10, 16, 20, 2, 10, 2, 10, 0, 1, 2, 3, NONE);
        due.row("the end takes z", -1, j -> x.spelt(3, 111, j), 7, 16, 20, 2, 10, 2, 10, 25, NONE);
        due.row("it ends where none says it", -1, j -> x.spelt(3, 115, j), 2, 16, 20, NONE);
        due.row("none", -1, j -> x.spelt(0, 8, j), 0, NONE);
        due.is("not well", x.right(0, 8, 1), 0);
        FirstReader y = due.reader("sign abcd 1;sign a 1;word abcd 1 2;word a 1 1 1 1 1 1 1 1;", 4);
        due.is("the letters alone do not make it well", y.right(0, 3, 1), 0);
        due.is("32 letters", y.spelt(1, 3, -1), 32);
        due.is("the last of them", y.spelt(1, 3, 31), 3);
        due.is("behind them", y.spelt(1, 3, 32), NONE);
    }

    private static void setsAreRefused() {
        FirstReader x = due.reader("sign a 1;sign b 1;word a 1;", 3);
        int[] sets = {4, 8, 7, -1, Integer.MIN_VALUE, 1 << 20, 1 << 30};
        for (int set : sets) {
            due.is("ways(0, " + set + ")", x.ways(0, set), UNKNOWN);
            due.is("cut(0, " + set + ")", x.cut(0, set, 0), UNKNOWN);
            due.is("aloud(0, " + set + ")", x.aloud(0, set, 0), UNKNOWN);
            due.is("right(0, " + set + ")", x.right(0, set, 0), UNKNOWN);
            due.is("spelt(0, " + set + ")", x.spelt(0, set, 0), UNKNOWN);
        }
        for (int w : new int[] {1, -1, Integer.MAX_VALUE, Integer.MIN_VALUE}) {
            due.is("ways(" + w + ")", x.ways(w, 0), UNKNOWN);
            due.is("cut(" + w + ")", x.cut(w, 0, 0), UNKNOWN);
            due.is("aloud(" + w + ")", x.aloud(w, 0, 0), UNKNOWN);
            due.is("right(" + w + ")", x.right(w, 0, 0), UNKNOWN);
            due.is("spelt(" + w + ")", x.spelt(w, 0, 0), UNKNOWN);
        }
        FirstReader all = due.reader("sign a 1;".repeat(20) + "word a 1;", 21);
        due.is("all of twenty", all.ways(0, (1 << 20) - 1), 20);
        due.is("a 21st", all.ways(0, 1 << 20), UNKNOWN);
    }
}
