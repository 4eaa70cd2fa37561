import java.lang.management.ManagementFactory;
import java.util.Random;

/** The room that the page gives: a new object is small, and no call makes anything. */
public final class RoomTest {
    private static final String TOWN = "counter 3 1 99; counter 4 1 99; counter 0 2 9; sort a 16 99 240 1 1 1;"
        + "sort b 9 50 30 1 2 2; bow 1; close 240;";
    private static final String LAWS = "law most wait*2+came; law least ((((((((ahead<3))))))));";
    private static final com.sun.management.ThreadMXBean THREADS =
        (com.sun.management.ThreadMXBean) ManagementFactory.getThreadMXBean();

    public static void main(String[] args) {
        long id = Thread.currentThread().getId();
        for (int warm = 0; warm < 20; warm++) {
            callsOf(warm, id);
        }
        for (int run = 0; run < 20; run++) {
            Check.due("bytes that calls made in run " + run, callsOf(run, id) < 4096, true);
        }
        long ahead = THREADS.getThreadAllocatedBytes(id);
        LastServed x = new LastServed();
        long made = THREADS.getThreadAllocatedBytes(id) - ahead;
        Check.due("bytes of a new object, " + made, made < 65536 && x.count(0) == 0, true);
        Check.close("RoomTest");
    }

    private static long callsOf(int seed, long id) {
        Random random = new Random(seed);
        LastServed x = Check.withTown(TOWN);
        Check.tellLaws(x, LAWS);
        for (int k = 0; k < 8; k++) {
            x.comer(k * 3, 5 + k);
        }
        x.go(10);
        int[] numbers = new int[5 * 500];
        for (int k = 0; k < numbers.length; k++) {
            numbers[k] = random.nextInt(4) == 0 ? random.nextInt(1000000) : random.nextInt(6);
        }
        long ahead = THREADS.getThreadAllocatedBytes(id);
        for (int k = 0; k < 500; k++) {
            int at = 5 * k;
            Calls.call(x, k % Calls.METHODS, numbers[at], numbers[at + 1], numbers[at + 2], numbers[at + 3],
                numbers[at + 4]);
        }
        return THREADS.getThreadAllocatedBytes(id) - ahead;
    }
}
