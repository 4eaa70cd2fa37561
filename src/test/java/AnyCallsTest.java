import java.util.Random;

/** Any calls with any arguments in any state: none throws, and what is refused or only asks changes nothing. */
public final class AnyCallsTest {
    private static final int[] EDGES = {0, -1, 1, 2, 3, 4, 5, 7, 8, 9, 10, 12, 13, 16, 17, 29, 30, 31, 60, 61, 99, 100,
        120, 121, 200, 201, 240, 241, 500, 501, 4826808, 4826809, 1000000, 1000001, 1200000, 1200012, 1210000,
        Integer.MAX_VALUE, Integer.MIN_VALUE, Integer.MAX_VALUE - 1, Integer.MIN_VALUE + 1, -2, -100, 0x20202020};
    private static final String[] TEXTS = {"", ";", "counter", "law", "law most", "law least ((((((((((", "sort a",
        "law most (came<", "counter 0 1 99; sort a 9 50 30 1 2 1; sort b 9 50 30 1 2 2; bow 0;",
        "counter 3 1 9; counter 8 2 99; counter 2 9 0; sort a 16 99 240 9 9 1; sort bb 16 0 1 0 0 2; close 240; fee 99;",
        "law most came*9999*9999-turns; law least ((((((((1<2)))))))); law most many; law least left; law most wait-9;",
        "counter 4 1 99; sort c 16 1 240 1 1 1; bow 9; close 10;", "law least x;", "counter 0 1 1; sort fee"};

    public static void main(String[] args) {
        Random random = new Random(77);
        for (int run = 0; run < 3000; run++) {
            oneRun(random, run);
        }
        Check.close("AnyCallsTest");
    }

    private static int any(Random random) {
        int kind = random.nextInt(10);
        if (kind < 5) {
            return random.nextInt(5);
        }
        return kind < 9 ? EDGES[random.nextInt(EDGES.length)] : random.nextInt();
    }

    private static void oneRun(Random random, int run) {
        LastServed x = new LastServed();
        boolean watched = run % 10 == 0;
        String last = "";
        try {
            for (int k = 0; k < (watched ? 60 : 400); k++) {
                if (random.nextInt(25) == 0) {
                    Check.text(x, TEXTS[random.nextInt(TEXTS.length)]);
                }
                int method = random.nextInt(Calls.METHODS);
                int a = any(random);
                int b = any(random);
                int c = any(random);
                int d = any(random);
                int e = any(random);
                last = Calls.NAMES[method] + "(" + a + ", " + b + ", " + c + ", " + d + ", " + e + ")";
                String ahead = watched ? ImageTest.seen(x) : "";
                long answer = Calls.call(x, method, a, b, c, d, e);
                if (watched && (!Calls.changes(method) || Calls.isRefusal(method, answer))) {
                    Check.due("run " + run + ": " + last + " changes nothing", ImageTest.seen(x).equals(ahead), true);
                }
            }
            Check.due("run " + run + " throws nothing", true, true);
        } catch (Throwable thrown) {
            thrown.printStackTrace(System.out);
            Check.due("run " + run + ": " + last + " throws nothing", false, true);
        }
    }
}
