import java.lang.management.ManagementFactory;

/** All calls of a run live in one room: an object is small, and its calls make nothing. */
public final class RoomOfRunTest {
    private static final int CALLS = 512;
    private static final long MOST_BYTES_AN_OBJECT = 20_000;
    private static final long MOST_BYTES_A_RUN_OF_CALLS = 100_000;

    private RoomOfRunTest() {
    }

    public static void main(String[] args) {
        Check check = new Check();
        check.part("room");
        long[] spent = new long[3];
        for (int round = 0; round < 3; round++) {
            spent[0] = allocated();
            CoatsOnTheBed x = new CoatsOnTheBed();
            spent[1] = allocated();
            furnish(x);
            long answers = ask(x);
            spent[2] = allocated();
            check.holds("the calls answer", answers != 0);
        }
        System.out.println("an object " + (spent[1] - spent[0]) + " bytes, its calls "
                + (spent[2] - spent[1]));
        check.holds("an object is small", spent[1] - spent[0] < MOST_BYTES_AN_OBJECT);
        check.holds("calls make nothing", spent[2] - spent[1] < MOST_BYTES_A_RUN_OF_CALLS);
        check.end();
    }

    private static long allocated() {
        return ((com.sun.management.ThreadMXBean) ManagementFactory.getThreadMXBean())
                .getThreadAllocatedBytes(Thread.currentThread().getId());
    }

    private static void furnish(CoatsOnTheBed x) {
        for (int g = 0; g < 5; g++) {
            x.keep(0, 1, g + 1, 9);
            x.comes(0, 10 * g);
        }
        x.row(1, 2, 2);
        x.set(2, 2);
    }

    private static long ask(CoatsOnTheBed x) {
        long sum = 0;
        for (int k = 0; k < CALLS / 16; k++) {
            sum += x.least(1) + x.mean(0) + x.orders(0) + x.reads(1, 0) + x.whom(3, 0);
            sum += x.nights(20, k, 0) + x.bestTurn() + x.two(0, 1) + x.whose(0) + x.along(4, 1);
            sum += x.row(2, 0, 100) + x.image() + x.restore() + x.bestRule() + x.shown(0);
            sum += x.judge(1);
        }
        return sum;
    }
}
