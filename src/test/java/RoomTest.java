import java.lang.management.ManagementFactory;

/** All calls of one run live in one room: the dearest runs of 512 calls make little. */
public final class RoomTest {
    /** Far below 600,000 objects, and 7.3 million elements, of which each takes a byte at least. */
    private static final long MOST_BYTES = 2000000;

    public static void main(String[] args) {
        run(0);
        for (int which = 0; which < 6; which++) {
            long before = bytes();
            run(which);
            long made = bytes() - before;
            Due.holds("run " + which + " made " + made + " bytes", made < MOST_BYTES);
        }
        Due.end();
    }

    private static long bytes() {
        if (ManagementFactory.getThreadMXBean() instanceof com.sun.management.ThreadMXBean bean) {
            return bean.getThreadAllocatedBytes(Thread.currentThread().getId());
        }
        return 0;
    }

    private static void run(int which) {
        FreshHorses x = new FreshHorses();
        Due.road(x, "f4*f3*h3*f3*s3*f4*f4*");
        for (int s = 0; s < 4; s++) Due.sort(x, "12:20,12,6;0,1,2");
        for (int b = 0; b < 12; b++) x.beast(b % 4, b % 7, b, 0);
        for (int r = 0; r < 8; r++) x.ride(3 + r % 2, 0);
        for (int l = 0; l < 10; l++) x.letter(60 * l);
        long word = Due.word("wwwwwwww");
        for (int i = 0; i < 11; i++) x.letters(word);
        for (int i = 0; i < 400; i++) call(x, which, i);
    }

    private static void call(FreshHorses x, int which, int i) {
        switch (which) {
            case 0: x.digest(); break;
            case 1: x.fault(i % 3); break;
            case 2: x.day(i % 8, 0); break;
            case 3: x.missed(i, 0); break;
            case 4: x.ridden(i % 8, 10 * i); break;
            default: refusedInTheEnd(x, i); break;
        }
    }

    /** What can be done a few times alone, then what is read from THE PAGE and refused. */
    private static void refusedInTheEnd(FreshHorses x, int i) {
        if (i < 10) x.shut(i, 9, 1);
        else if (i < 20) x.set(i % 4, 3, 1);
        else if (i < 30) x.fewest(i % 4, i % 8, 300);
        else x.tell();
    }
}
