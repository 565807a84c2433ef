/** Texts to the brim that several tests need. */
final class Texts {
    private Texts() {
    }

    /** Words a, b, c .. with sound 1 each. */
    static String words(int count) {
        StringBuilder text = new StringBuilder();
        for (char c = 'a'; c < 'a' + count; c++) {
            text.append("word ").append(c).append(" 1;");
        }
        return text.toString();
    }

    /** Sixteen words a .. p, and a page of all of them. */
    static String pageOfSixteen() {
        return words(16) + "page a b c d e f g h i j k l m n o p;";
    }

    /** As many clauses of each kind as there may be. */
    static String full() {
        return words(24) + "sign a1;".repeat(20) + "lesson;".repeat(7) + "page a;".repeat(8);
    }

    /** All signs and all words there may be, and one lesson that teaches them all. */
    static String lessonOfAll() {
        return "sign a 1;".repeat(20) + words(24) + "lesson signs 0,1,2,3,4,5,6,7,8,9,10,11,12,13,14,15,16,17,18,19"
            + " sight 0,1,2,3,4,5,6,7,8,9,10,11,12,13,14,15,16,17,18,19,20,21,22,23;";
    }
}
