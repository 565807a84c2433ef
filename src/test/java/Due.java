/** What the tests share: a check with the answer that is due, a way to feed a text, and the end of a test. */
final class Due {
    private final String test;
    private String sentence = "";
    private int calls;
    private int callsAtBegin;
    private int wrong;

    Due(String test) {
        this.test = test;
    }

    /** What comes from here on is about one sentence of the document. */
    void begin(String words) {
        sentence = words + ": ";
        callsAtBegin = calls;
    }

    boolean hasCompared() {
        return calls > callsAtBegin;
    }

    void is(String call, long got, long want) {
        calls++;
        if (got != want) {
            wrong++;
            System.out.println(test + ": " + sentence + call + " answered " + got + ", due is " + want);
        }
    }

    void holds(String what, boolean isSo) {
        is(what, isSo ? 1 : 0, 1);
    }

    /** A text that must become the primer. */
    FirstReader reader(String text, int clauses) {
        FirstReader x = new FirstReader();
        feed(x, text);
        is("primer() of " + text, x.primer(), clauses);
        is("fault() of " + text, x.fault(), FirstReader.NONE);
        return x;
    }

    /** A text that must become the primer, with a ';' for each clause. */
    FirstReader reader(String text) {
        return reader(text, (int) text.chars().filter(c -> c == ';').count());
    }

    /** A text with a fault, whose byte stands behind a mark '^' that is not fed. */
    void fault(String marked, int kind) {
        int at = marked.indexOf('^');
        fault(marked.substring(0, at) + marked.substring(at + 1), kind, at);
    }

    /** A text with a fault. */
    void fault(String text, int kind, int at) {
        FirstReader x = new FirstReader();
        feed(x, text);
        is("primer() of " + text, x.primer(), -10 - kind);
        is("fault() of " + text, x.fault(), at);
    }

    /** The answers of calls that differ in their last number only, from 'from' on. */
    interface Call {
        long of(int i);
    }

    void row(String call, int from, Call answer, long... want) {
        for (int i = 0; i < want.length; i++) {
            is(call + " at " + (from + i), answer.of(from + i), want[i]);
        }
    }

    static void feed(FirstReader x, String text) {
        for (int at = 0; at < text.length(); at += 8) {
            int n = Math.min(8, text.length() - at);
            long bytes = 0;
            for (int i = 0; i < n; i++) {
                bytes = bytes << 8 | text.charAt(at + i) & 255;
            }
            x.feed(n, bytes);
        }
    }

    void end() {
        System.out.println(test + ": " + calls + " answers, " + wrong + " of them not as due");
        if (wrong != 0) {
            System.exit(1);
        }
    }
}
