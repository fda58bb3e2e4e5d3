import com.sun.management.ThreadMXBean;
import java.lang.management.ManagementFactory;

/** All calls of a run live in one room: only the constructor makes objects, the calls make none. */
public final class RoomTest {
    private static final ThreadMXBean THREADS = (ThreadMXBean) ManagementFactory.getThreadMXBean();
    private static int wrong = 0;

    public static void main(String[] args) {
        // The first rounds let the machine load what it needs; the last one is counted.
        long used = 0;
        long made = 0;
        for (int round = 0; round < 5; round++) {
            long start = bytes();
            RindTalk x = new RindTalk();
            made = bytes() - start;
            start = bytes();
            use(x);
            used = bytes() - start;
        }
        need(made < 8_192, "a new object takes " + made + " bytes");
        need(used < 256, "500 calls take " + used + " bytes");
        System.out.println("a new object takes " + made + " bytes, its calls " + used);
        if (wrong != 0) {
            System.exit(1);
        }
    }

    private static long bytes() {
        return THREADS.getThreadAllocatedBytes(Thread.currentThread().getId());
    }

    private static void need(boolean holds, String what) {
        if (!holds) {
            wrong++;
            System.out.println(what);
        }
    }

    private static final String TEXT = "q5,c00,w10,m20,c30;091;192;293;394;495;096;197;290";

    private static void use(RindTalk x) {
        x.sheet(0, 0, 50);
        for (int i = 0; i < 50; i++) {
            x.put(0, i, TEXT.charAt(i));
        }
        for (int round = 0; round < 12; round++) {
            x.dairy(0, 0, 0, 50);
            x.sheet(1, 2, 60);
            x.move(1, 2, 3);
            x.undo(0);
            x.wall(0, 7);
            x.reading(0, 0, 7);
            x.reading(1, 0, 7);
            x.back(1);
            for (int k = 0; k < 4; k++) {
                x.spare(255, 0, k);
                x.shelve(k);
                x.odds(k, 7, 0);
                x.louds(k);
                x.kinds(k);
                x.lay(k);
                x.tell(k);
                x.tap(k);
            }
            x.words(0);
            x.common();
            x.alone(0);
            x.cuts(1, 2, 0, 20, 1);
            x.copy(1, 0, 1, 10, 50);
            x.copy(0, 0, 1, 0, 0);
            x.lose(1);
        }
    }
}
