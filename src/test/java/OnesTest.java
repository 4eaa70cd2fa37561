import java.util.Random;

/** Promises 24 to 28: value, entering, when, least, send. */
public final class OnesTest {
    private static final int NONE = LastServed.NONE;
    private static final int VOID = LastServed.VOID;
    /** Of counters with each law; sort 1 pays nothing, sort 0 does. */
    private static final String TOWN = "counter 0 2 9; counter 1 2 9; counter 2 3 9;"
        + "sort a 0 20 99 1 2 0; sort b 0 5 99 0 0 0; fee 3; bow 2;";

    public static void main(String[] args) {
        valuesByHand();
        lotByHand();
        refusals();
        edges();
        enteringAndWhen();
        leastByHand();
        sending();
        likeAPlainReckoning();
        wholeTables();
        Check.close("OnesTest");
    }

    private static void valuesByHand() {
        LastServed x = Check.withTown(TOWN);
        Check.due("at closing", x.value(0, 0, 0, 0, 0), 0);
        Check.due("at closing one leaves", x.value(0, 0, 0, 0, 1), 2);
        Check.due("at closing one leaves, of no cost too", x.value(1, 2, 606, 16, 1), 2);
        Check.due("at closing one leaves, by LAST", x.value(1, 1, 1200, 0, 1), 2);
        Check.due("with 12 behind, too", x.value(0, 1, 12, 9, 1), 2);
        Check.due("FIRST, t 1", x.value(0, 0, 10000, 0, 0), 0);
        Check.due("FIRST, t 1: leave", x.value(0, 0, 10000, 0, 1), 2);
        Check.due("of no cost one stays", x.value(1, 0, 10000, 0, 1), 0);
        Check.due("FIRST, t 2, first", x.value(0, 0, 20000, 0, 0), 19000);
        Check.due("FIRST, t 2, first with some behind", x.value(0, 0, 20005, 0, 0), 19000);
        Check.due("FIRST, t 2, second", x.value(0, 0, 20100, 0, 0), 0);
        Check.due("FIRST, t 4, second: a minute, served another, a minute, served", x.value(0, 0, 40100, 0, 0), 17000);
        Check.due("FIRST, t 3, first: a minute first", x.value(0, 0, 30000, 0, 0), 18000);
        Check.due("LAST, t 2, last", x.value(0, 1, 20500, 0, 0), 19000);
        // to turn costs the fee 3 and two minutes outside, 2 each
        Check.due("LAST, t 2, one behind", x.value(0, 1, 20001, 0, 0), 12000);
        Check.due("LAST, t 2, one behind: turn", x.value(0, 1, 20001, 0, 1), 1);
        Check.due("LAST, t 2, last: stay", x.value(0, 1, 20001 + 99, 0, 1), 0);
        // t 3: a minute, and then with 8 of 16 one more is behind: the mean of 19000 and 12000
        Check.due("LAST, t 3, one more may come", x.value(0, 1, 30000, 8, 0), 14500);
        Check.due("LAST, t 3, one more comes", x.value(0, 1, 30000, 16, 0), 11000);
        Check.due("LAST, t 3, with no room for more", x.value(0, 1, 31200, 16, 0), 18000);
        Check.due("MIDDLE of 3", x.value(0, 2, 30101, 0, 0), 19000);
        Check.due("MIDDLE of 2 is the second", x.value(0, 2, 30100, 0, 0), 19000);
        Check.due("MIDDLE of 2, the first turns", x.value(0, 2, 30001, 0, 1), 1);
        Check.due("MIDDLE of 3, the last leaves", x.value(0, 2, 30200, 0, 1), 2);
        Check.due("MIDDLE, t 6, of 3 the last", x.value(0, 2, 60200, 0, 0), 16000);
    }

    private static void lotByHand() {
        LastServed x = Check.withTown("counter 3 1 9; sort a 0 10 99 0 0 0; fee 99;");
        Check.due("LOT of 1", x.value(0, 0, 10000, 0, 0), 10000);
        Check.due("LOT of 3, cut", x.value(0, 0, 10101, 0, 0), 3333);
        // t 2 of 3: (10000 + 5000 + 5000) / 3
        Check.due("LOT of 3, t 2", x.value(0, 0, 20101, 0, 0), 6666);
        Check.due("LOT of 13", x.value(0, 0, 10606, 0, 0), 769);
        // t 2 of 2: the other one is served, then alone or, with 16 of 16, with one behind
        Check.due("LOT of 2 as one more comes", x.value(0, 0, 20100, 16, 0), 7500);
    }

    private static void refusals() {
        LastServed x = Check.withTown(TOWN + "sort c 0 1 1 1 1 1;");
        int[][] wrong = {{-1, 0, 10000, 0, 0}, {3, 0, 10000, 0, 0}, {0, -1, 10000, 0, 0}, {0, 3, 10000, 0, 0},
            {0, 0, -1, 0, 0}, {0, 0, 1210000, 0, 0}, {0, 0, 11300, 0, 0}, {0, 0, 10013, 0, 0}, {0, 0, 10607, 0, 0},
            {0, 0, 10000, -1, 0}, {0, 0, 10000, 17, 0}, {0, 0, 10000, 0, -1}, {0, 0, 10000, 0, 2},
            {0, 0, Integer.MIN_VALUE, 0, 0}, {0, 0, Integer.MAX_VALUE, 0, 0}};
        for (int[] w : wrong) {
            Check.due("value of what can't be", x.value(w[0], w[1], w[2], w[3], w[4]), VOID);
        }
        Check.due("value of what can be", x.value(2, 2, 1200606, 16, 1) != VOID, true);
        Check.due("entering n 13", x.entering(0, 0, 113, 0), VOID);
        Check.due("entering t 121", x.entering(0, 0, 12100, 0), VOID);
        Check.due("entering -1", x.entering(0, 0, -1, 0), VOID);
        Check.due("entering q 17", x.entering(0, 0, 100, 17), VOID);
        Check.due("entering sort 3", x.entering(3, 0, 100, 0), VOID);
        Check.due("entering counter 3", x.entering(0, 3, 100, 0), VOID);
        Check.due("when t -1", x.when(1, 0, -1, 0, 0), NONE);
        Check.due("when t 121", x.when(1, 0, 121, 0, 0), NONE);
        Check.due("when row -1", x.when(1, 0, 120, -1, 0), NONE);
        Check.due("when row 13 to the sixth", x.when(1, 0, 120, 4826809, 0), NONE);
        Check.due("when q 17", x.when(1, 0, 120, 0, 17), NONE);
        Check.due("when sort 3", x.when(3, 0, 120, 0, 0), NONE);
        Check.due("least t 0", x.least(0, 0, 0, 0), NONE);
        Check.due("least t 61", x.least(0, 0, 61, 0), NONE);
        Check.due("least q -1", x.least(0, 0, 6, -1), NONE);
        Check.due("least counter 3", x.least(0, 3, 6, 0), NONE);
        Check.due("send 12 and oneself", x.send(0, 0, 10606, 0, 0), VOID);
        Check.due("send c -1", x.send(0, 0, 10000, 0, -1), VOID);
        Check.due("send c 100", x.send(0, 0, 10000, 0, 100), VOID);
        Check.due("send t 121", x.send(0, 0, 1210000, 0, 0), VOID);
        Check.due("send -1", x.send(0, 0, -1, 0, 0), VOID);
        Check.due("send q 17", x.send(0, 0, 10000, 17, 0), VOID);
        LastServed y = Check.withTown("counter 4 1 9; sort a 0 1 99 0 0 0;");
        Check.due("value by a told law", y.value(0, 0, 10000, 0, 0), VOID);
        Check.due("entering by a told law", y.entering(0, 0, 100, 0), VOID);
        Check.due("when by a told law", y.when(0, 0, 100, 0, 0), NONE);
        Check.due("least by a told law", y.least(0, 0, 10, 0), NONE);
        Check.due("send by a told law", y.send(0, 0, 10000, 0, 0), VOID);
    }

    private static void edges() {
        LastServed x = Check.withTown(TOWN);
        Check.due("t 120, 12 ahead", x.value(0, 0, 1201200, 16, 0) != VOID, true);
        Check.due("t 120, 12 behind", x.value(0, 0, 1200012, 16, 0), 19000);
        Check.due("entering t 120, n 12", x.entering(0, 1, 12012, 0), 19000 - 3000);
        Check.due("entering t 0", x.entering(0, 0, 0, 0), -3000);
        Check.due("entering t 0, n 12", x.entering(0, 0, 12, 0), -3000);
        Check.due("send with 12 together", x.send(0, 0, 10506, 0, 99) != VOID, true);
    }

    private static void enteringAndWhen() {
        LastServed x = Check.withTown("counter 0 5 9; sort a 0 20 99 1 0 0; fee 3;");
        // t 20, n ahead: served at 20 - 5 n, 5 n + 1 minutes are paid
        Check.due("entering n 0", x.entering(0, 0, 2000, 0), 16000);
        Check.due("entering n 1", x.entering(0, 0, 2001, 0), 11000);
        Check.due("entering n 3", x.entering(0, 0, 2003, 0), 1000);
        Check.due("entering n 4", x.entering(0, 0, 2004, 0), -3000);
        Check.due("entering a minute later", x.entering(0, 0, 1900, 0), 12000);
        Check.due("when: the first of like ones", x.when(0, 0, 20, 1 + 13, 0), 0);
        Check.due("when: the second is better", x.when(0, 0, 20, 2 + 13, 0), 1);
        Check.due("when: nobody at the second", x.when(0, 0, 20, 1, 0), 1);
        Check.due("when: at t 0 nothing is gained", x.when(0, 0, 20, 12 + 12 * 13, 0), NONE);
        Check.due("when: only at the last of six", x.when(0, 0, 60, 371292, 0), 5);
        Check.due("when: places below 0 aren't", x.when(0, 0, 40, 371292, 0), NONE);
        Check.due("when: t 9", x.when(0, 0, 9, 0, 0), 0);
        Check.due("when: t 0", x.when(0, 0, 0, 0, 0), NONE);
        Check.due("when: the greatest row", x.when(0, 0, 120, 4826808, 0), NONE);
    }

    private static void leastByHand() {
        LastServed x = Check.withTown("counter 1 2 9; counter 0 2 9; sort a 0 50 99 1 0 0; sort b 0 99 99 0 0 0;"
            + "sort c 0 20 99 1 3 0; fee 2;");
        Check.due("least for t 1", x.least(0, 0, 1, 0), 0);
        Check.due("least for t 2", x.least(0, 0, 2, 0), 50);
        Check.due("nobody turns by FIRST", x.least(0, 1, 60, 9), 0);
        // 99 - F is 0 with 99, and to stay is 0, too
        Check.due("of worth 99 only the greatest fee is enough", x.least(1, 0, 2, 0), 99);
        LastServed y = Check.withTown("counter 1 2 9; sort c 0 20 99 1 3 0; bow 2;");
        // a bow costs 6 already: 19 - 6 - F is below 0 with 14
        Check.due("least with a bow", y.least(0, 0, 2, 0), 14);
    }

    private static void sending() {
        LastServed x = Check.withTown(TOWN);
        // FIRST, t 4, alone: 20 - 1 served at once; the one sent in is second: 17, less the fee 3 and the coin
        Check.due("send", x.send(0, 0, 40000, 0, 1), 17000 - 4000 - 19000);
        // LAST, t 2, one behind: one's own best is to turn, 12; the one sent in is last, 19
        Check.due("send by LAST", x.send(0, 1, 20001, 0, 0), 19000 - 3000 - 12000);
        Check.due("send for 99", x.send(0, 1, 20001, 0, 99), 19000 - 102000 - 12000);
        Check.due("send at closing", x.send(0, 0, 0, 0, 5), -8000);
    }

    private static void likeAPlainReckoning() {
        Random random = new Random(11);
        for (int run = 0; run < 120; run++) {
            int law = run % 4;
            int each = 1 + random.nextInt(9);
            int w = random.nextInt(100);
            int i = random.nextInt(3) * random.nextInt(5);
            int o = random.nextInt(10);
            int fee = random.nextInt(3) * random.nextInt(30);
            int bow = random.nextInt(3) * random.nextInt(5);
            int q = random.nextInt(17);
            LastServed x = Check.withTown("counter " + law + " " + each + " 9; sort a 0 " + w + " 99 " + i + " " + o
                + " 0; fee " + fee + "; bow " + bow + ";");
            PlainOnes plain = new PlainOnes(law, each, w, i, o, fee, bow, q);
            String of = " in run " + run + " law " + law;
            for (int k = 0; k < 30; k++) {
                int t = random.nextInt(k % 3 == 0 ? 121 : 25);
                int a = random.nextInt(13);
                int b = random.nextInt(13 - a);
                int place = t * 10000 + a * 100 + b;
                Check.due("value " + place + of, x.value(0, 0, place, q, 0), plain.value(t, a, b));
                Check.due("act " + place + of, x.value(0, 0, place, q, 1), plain.act(t, a, b));
                Check.due("entering" + of, x.entering(0, 0, t * 100 + a, q), plain.value(t, a, 0) - 1000L * fee);
                if (a + b < 12) {
                    Check.due("send " + place + of, x.send(0, 0, place, q, k),
                        plain.value(t, a + b + 1, 0) - 1000L * (fee + k) - plain.value(t, a, b));
                }
                whenLike(x, plain, t, random.nextInt(4826809), q);
            }
            int most = 1 + random.nextInt(run % 10 == 0 ? 60 : 15);
            int least = NONE;
            for (int f = 0; f <= 99 && least == NONE; f++) {
                boolean turns = new PlainOnes(law, each, w, i, o, f, bow, q).somebodyTurns(most);
                least = turns ? NONE : f;
            }
            Check.due("least for " + most + of, x.least(0, 0, most, q), least);
        }
    }

    /** Every state at some t, where nothing is paid to turn and where something is; each t of an object of its own. */
    private static void wholeTables() {
        int[][] towns = {{4, 60, 0, 0, 0, 0, 12}, {4, 60, 1, 2, 3, 1, 12}, {1, 99, 2, 0, 0, 0, 5}, {9, 80, 0, 1, 0, 2, 16},
            {3, 17, 0, 0, 0, 0, 9}, {2, 90, 1, 0, 1, 0, 15}};
        for (int law = 0; law <= 3; law++) {
            for (int[] of : towns) {
                PlainOnes plain = new PlainOnes(law, of[0], of[1], of[2], of[3], of[4], of[5], of[6]);
                for (int t : new int[] {1, 9, 27, 40, 120}) {
                    LastServed x = Check.withTown("counter " + law + " " + of[0] + " 9; sort a 0 " + of[1] + " 99 " + of[2]
                        + " " + of[3] + " 0; fee " + of[4] + "; bow " + of[5] + ";");
                    tableLike(x, plain, t, of[6]);
                }
            }
        }
    }

    private static void tableLike(LastServed x, PlainOnes plain, int t, int q) {
        for (int a = 0; a <= 12; a++) {
            for (int b = 0; a + b <= 12; b++) {
                int place = t * 10000 + a * 100 + b;
                String at = " at " + place + " by " + plain.law + " with S " + plain.each;
                Check.due("value" + at, x.value(0, 0, place, q, 0), plain.value(t, a, b));
                Check.due("act" + at, x.value(0, 0, place, q, 1), plain.act(t, a, b));
            }
        }
    }

    private static void whenLike(LastServed x, PlainOnes plain, int t, int row, int q) {
        int best = NONE;
        long most = 0;
        int rest = row;
        for (int k = 0; k < 6; k++) {
            int minutes = t - 10 * k;
            long worth = minutes < 0 ? 0 : plain.value(minutes, rest % 13, 0) - 1000L * plain.fee;
            if (worth > most) {
                most = worth;
                best = k;
            }
            rest /= 13;
        }
        Check.due("when t " + t + " row " + row, x.when(0, 0, t, row, q), best);
    }
}
