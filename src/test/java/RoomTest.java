import java.lang.management.ManagementFactory;

/** All calls of one run live in one room: what an object and its dearest calls make is counted in bytes. */
public final class RoomTest {
    private static final long MOST_FOR_ONE = 300_000;
    private static final long MOST_FOR_CALLS = 20_000;

    private static final com.sun.management.ThreadMXBean THREADS =
        (com.sun.management.ThreadMXBean) ManagementFactory.getThreadMXBean();

    private static long made() {
        return THREADS.getThreadAllocatedBytes(Thread.currentThread().getId());
    }

    public static void main(String[] args) {
        run();
        long begin = made();
        SunTable x = new SunTable();
        long one = made() - begin;
        prepare(x);
        begin = made();
        int sum = calls(x);
        long calls = made() - begin;
        System.out.println("an object: " + one + " bytes; 400 of its dearest calls: " + calls + " bytes (" + sum + ")");
        if (one > MOST_FOR_ONE || calls > MOST_FOR_CALLS) {
            System.out.println("that is too much");
            System.exit(1);
        }
    }

    /** Once before it is counted, so that the machine's own making is done. */
    private static void run() {
        SunTable x = new SunTable();
        prepare(x);
        calls(x);
    }

    /** Men and sun go round for ever, by a rule of as many values as there may be. */
    private static void prepare(SunTable x) {
        Texts.rule(x, "buy theirsun+men" + "*1".repeat(24) + " if [[[[theirmen" + "+1".repeat(25)
            + ">0 or soon<0]]] or not not 1=1]");
        Texts.table(x, "table 1 9;land 50 9 99;land 50 9 99;land 50 9 99;land 0 9 99;land 50 9 0");
        if (x.force(0) != SunTable.NONE || x.note(60, 0, 1) != 1) {
            System.out.println("the rule or the table was not taken");
            System.exit(1);
        }
    }

    private static int calls(SunTable x) {
        int sum = 0;
        for (int i = 0; i < 40; i++) {
            sum += x.shun(60, i % 3) + x.row(i % 5, 4, i % 5) + x.need(3, 9999, 60) + x.game(0, 1, 4, 0);
            sum += x.summers(10, 60, 50, 0) + x.look(60, 0) + x.best(60, 0) + x.week() + x.image(i % 4) + x.back(i % 4);
        }
        return sum;
    }
}
