import java.lang.management.ManagementFactory;

/** The room of a run: an object and 512 of its dearest calls make little, however they are chosen. */
public final class RoomTest {
    private static final Due due = new Due("RoomTest");
    private static final int CALLS = 512;
    private static final long MOST_BYTES = 1_000_000;
    private static final com.sun.management.ThreadMXBean THREADS =
        (com.sun.management.ThreadMXBean) ManagementFactory.getThreadMXBean();

    public static void main(String[] args) {
        String text = "word a 1;word b 2;word c 3;word y 1;word z 1;page y z;page a;page b;page c;sign a 1;sign b 2;sign ab -;"
            + "lesson signs 0,1,2 sight 3;" + "lesson;".repeat(6);
        for (int kind = 0; kind < 12; kind++) {
            FirstReader warm = new FirstReader();
            callAll(warm, text, kind, 20);
            long before = THREADS.getCurrentThreadAllocatedBytes();
            FirstReader x = new FirstReader();
            callAll(x, text, kind, CALLS);
            long made = THREADS.getCurrentThreadAllocatedBytes() - before;
            due.holds("calls of kind " + kind + " made " + made + " bytes", made <= MOST_BYTES);
        }
        due.end();
    }

    private static void callAll(FirstReader x, String text, int kind, int calls) {
        Due.feed(x, text);
        x.primer();
        for (int i = 0; i < calls; i++) {
            call(x, kind, i);
        }
    }

    private static void call(FirstReader x, int kind, int i) {
        switch (kind) {
            case 0 -> x.course(i % 4, i % 17, -1);
            case 1 -> x.fewest(i % 4, i % 17);
            case 2 -> x.primer();
            case 3 -> x.cut(i % 5, 7, -1);
            case 4 -> x.ways(i % 5, 7);
            case 5 -> x.spelt(i % 5, 7, -1);
            case 6 -> x.mixed(i % 5, i % 128);
            case 7 -> x.hangs(i % 5);
            case 8 -> x.read(i % 3, i % 4);
            case 9 -> x.keep(i % 2);
            case 10 -> x.forAll();
            default -> x.next(i % 3, i % 17);
        }
    }
}
