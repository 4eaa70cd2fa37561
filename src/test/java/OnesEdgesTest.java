/** Terms 5 and promises 24 to 28: each sentence that names an edge of one's best, of the fee, or of sending another. */
public final class OnesEdgesTest {
    private static final int NONE = LastServed.NONE;
    private static final int VOID = LastServed.VOID;
    private static final int STAY = 0;
    private static final int TURN = 1;
    private static final int LEAVE = 2;
    private static final int[] FAR = {Integer.MIN_VALUE, -65536, -1000, -1, 65536, 1000000, Integer.MAX_VALUE};

    /** A counter whose LAW is told, one more that isn't, and two sorts. */
    private static final String REST = "counter 4 1 9; counter 3 1 9; sort a 0 10 9 0 0 0; sort b 0 20 9 0 0 0;";

    public static void main(String[] args) {
        theValue();
        theActAndTheTime();
        thePromises();
        Check.close("OnesEdgesTest");
    }

    private static void theValue() {
        Sentences.holds("ONE's best at a COUNTER with LAW 0 .. 3 and S", OnesEdgesTest::laws);
        Sentences.holds("t minutes ahead of closing (0 .. 120)", OnesEdgesTest::minutesAhead);
        Sentences.holds("a ahead and b behind (together at most 12; more don't come in)", OnesEdgesTest::together);
        Sentences.holds("each minute one more comes behind with q of 16 (if there is room)", OnesEdgesTest::oneMoreComes);
        Sentences.holds("if t is a multiple of S somebody is served ahead of that", OnesEdgesTest::multiplesOfS);
        Sentences.holds("VALUE, in thousandths (cut each time), of w (0 .. 99), i, o, B, F as told of a SORT and the TOWN",
            OnesEdgesTest::cutEachTime);
        Sentences.holds("0 at t 0; else the greatest of: 0 to LEAVE", OnesEdgesTest::atClosing);
        Sentences.holds("to TURN: to STAY with a and b together ahead and none behind, less 1000 times (F and B times o)",
            OnesEdgesTest::toTurn);
        Sentences.holds("to STAY: less 1000 i; and if somebody is served and it is oneself, 1000 w; else what follows: with"
            + " one fewer ahead or behind, if somebody else is served, the mean (cut) of VALUE with t - 1, with q of 16 one"
            + " more behind.", OnesEdgesTest::toStay);
        Sentences.holds("By LOT each of those n is as likely: 1000 w once, and what follows if one ahead, if one behind is"
            + " served, as often as these are, together by n (cut).", OnesEdgesTest::byLot);
    }

    private static void theActAndTheTime() {
        Sentences.holds("ACT: to STAY, if that is no less; else to TURN, if that is no less than 0, else to LEAVE.",
            OnesEdgesTest::acts);
        Sentences.holds("To COME IN at t with n inside is worth VALUE with n ahead, none behind, less 1000 F.",
            OnesEdgesTest::comingIn);
        Sentences.holds("WHEN of a told row of n (6 digits, base 13, the lowest the soonest; for t, t - 10, t - 20 .., of"
            + " which those below 0 aren't)", OnesEdgesTest::rowsOfWhen);
        Sentences.holds("the place (from 0 on) at which to COME IN is worth most (of like ones the soonest), or NONE, if"
            + " nowhere more than 0.", OnesEdgesTest::worthMost);
        Sentences.holds("LEAST FEE (0 .. 99) with which in no state with t of at most so many minutes one would TURN.",
            OnesEdgesTest::leastFees);
        Sentences.holds("SENDING: one who is INSIDE (a ahead, b behind) sends another one in behind, for a coin c (0 .. 99):"
            + " VALUE with a, b and oneself ahead and none behind (together 12 at most), less 1000 times F and c, less one's"
            + " own VALUE.", OnesEdgesTest::sending);
    }

    private static void thePromises() {
        Sentences.holds("VALUE (what 0), ACT (1: 0 STAY, 1 TURN, 2 LEAVE) of a SORT at a COUNTER (place t * 10000 + a * 100"
            + " + b), q of 16", OnesEdgesTest::placesOfValue);
        Sentences.holds("VOID for others, if there are none such, its LAW is told, or they can't be.",
            OnesEdgesTest::noValue);
        Sentences.holds("What to COME IN is worth (place t * 100 and n); VOID likewise.", OnesEdgesTest::noEntering);
        Sentences.holds("WHEN (t 0 .. 120); NONE if nowhere, or likewise.", OnesEdgesTest::noWhen);
        Sentences.holds("LEAST FEE for t (1 .. 60) minutes; NONE if there is none, or likewise.", OnesEdgesTest::noLeast);
        Sentences.holds("SENDING; VOID if a, b and oneself are above 12, c can't be, or likewise.", OnesEdgesTest::noSend);
    }

    /** One counter and one sort: LAW, S; w, i, o; F, B. */
    private static LastServed one(int law, int s, int w, int i, int o, int fee, int bow) {
        return Check.withTown("counter " + law + " " + s + " 9; sort a 0 " + w + " 99 " + i + " " + o + " 0; fee " + fee
            + "; bow " + bow + ";");
    }

    private static int place(int t, int a, int b) {
        return t * 10000 + a * 100 + b;
    }

    private static void value(LastServed x, int t, int a, int b, int q, int due) {
        Check.due("value at t " + t + ", a " + a + ", b " + b + ", q " + q, x.value(0, 0, place(t, a, b), q, 0), due);
    }

    private static void act(LastServed x, int t, int a, int b, int q, int due) {
        Check.due("act at t " + t + ", a " + a + ", b " + b + ", q " + q, x.value(0, 0, place(t, a, b), q, 1), due);
    }

    private static void laws() {
        for (int law = 0; law <= 8; law++) {
            LastServed x = one(law, 1, 20, 0, 0, 0, 0);
            boolean is = law <= 3;
            Check.due("value by " + law, x.value(0, 0, place(1, 0, 0), 0, 0), is ? 20000 : VOID);
            Check.due("act by " + law, x.value(0, 0, place(1, 0, 0), 0, 1), is ? STAY : VOID);
            Check.due("entering by " + law, x.entering(0, 0, 100, 0), is ? 20000 : VOID);
            Check.due("when by " + law, x.when(0, 0, 1, 0, 0), is ? 0 : NONE);
            Check.due("least by " + law, x.least(0, 0, 1, 0) == NONE, !is);
            Check.due("send by " + law, x.send(0, 0, place(1, 0, 0), 0, 0) == VOID, !is);
            // a LAW that is told is one, too, if it isn't there
            Check.tellLaws(x, "law least came;");
            Check.due("value by " + law + " as one is told", x.value(0, 0, place(1, 0, 0), 0, 0), is ? 20000 : VOID);
        }
        // whom each of them serves of 3 at t 1
        int[][] served = {{0, 0}, {2, 2}, {1, 1}};
        for (int law = 0; law <= 2; law++) {
            LastServed x = one(law, 1, 20, 0, 0, 99, 0);
            for (int a = 0; a <= 2; a++) {
                value(x, 1, a, 2 - a, 0, a == served[law][0] ? 20000 : 0);
            }
            for (int n = 1; n <= 13; n++) {
                int who = law == 0 ? 0 : law == 1 ? n - 1 : n / 2;
                for (int a = 0; a < n; a++) {
                    value(x, 1, a, n - 1 - a, 16, a == who ? 20000 : 0);
                }
            }
        }
    }

    private static void minutesAhead() {
        LastServed x = one(0, 1, 99, 0, 0, 0, 0);
        for (int t : new int[] {0, 1, 2, 119, 120}) {
            value(x, t, 0, 0, 0, t == 0 ? 0 : 99000);
            Check.due("act at " + t, x.value(0, 0, place(t, 0, 0), 0, 1), t == 0 ? LEAVE : STAY);
        }
        for (int t : new int[] {121, 122, 200, 1000, 100000, 214748}) {
            value(x, t, 0, 0, 0, VOID);
            act(x, t, 0, 0, 0, VOID);
        }
        Check.due("t -1", x.value(0, 0, -10000, 0, 0), VOID);
        Check.due("the least below 0", x.value(0, 0, -1, 0, 0), VOID);
        // with 12 ahead and one served each minute it takes 13 minutes
        for (int t = 11; t <= 15; t++) {
            value(x, t, 12, 0, 0, t >= 13 ? 99000 : 0);
        }
        // 12 others and 9 minutes each: t 117 is just enough
        LastServed y = one(0, 9, 99, 0, 0, 0, 0);
        value(y, 116, 12, 0, 0, 0);
        value(y, 117, 12, 0, 0, 99000);
        value(y, 120, 12, 0, 0, 99000);
    }

    private static void together() {
        LastServed x = one(0, 1, 20, 0, 0, 0, 0);
        for (int a = 0; a <= 15; a++) {
            for (int b = 0; b <= 15; b++) {
                boolean can = a + b <= 12;
                Check.due("value with " + a + " and " + b, x.value(0, 0, place(120, a, b), 9, 0) != VOID, can);
            }
        }
        for (int a : new int[] {13, 50, 99}) {
            value(x, 1, a, 0, 0, VOID);
            value(x, 1, 0, a, 0, VOID);
            value(x, 0, a, 0, 0, VOID);
            value(x, 0, 0, a, 0, VOID);
        }
        // more don't come in: with 12 ahead nobody is behind at LAST, with 11 somebody comes
        LastServed y = one(1, 2, 20, 0, 0, 99, 0);
        value(y, 3, 12, 0, 16, 20000);
        value(y, 3, 11, 0, 16, 0);
        value(y, 3, 11, 0, 0, 20000);
        // nor with 12 in any other way: nobody is served at t 3, and at t 2 one is worth the same with 12 as before
        for (int a = 0; a <= 12; a++) {
            value(one(0, 2, 20, 0, 0, 99, 0), 3, a, 12 - a, 16, a == 0 ? 20000 : 0);
            value(one(1, 2, 20, 0, 0, 99, 0), 3, a, 12 - a, 16, a == 12 ? 20000 : 0);
            value(one(3, 2, 20, 0, 0, 99, 0), 3, a, 12 - a, 16, 20000 / 13);
        }
        for (int a = 0; a <= 11; a++) {
            value(one(1, 2, 20, 0, 0, 99, 0), 3, a, 11 - a, 16, 0);
            value(one(3, 2, 20, 0, 0, 99, 0), 3, a, 11 - a, 16, 20000 / 13);
        }
    }

    private static void oneMoreComes() {
        // LAST, served at t 2: with q of 16 one more stands behind by then, and to turn is too dear
        LastServed x = one(1, 2, 16, 0, 0, 99, 0);
        for (int q = 0; q <= 16; q++) {
            value(x, 3, 0, 0, q, 16000 - 1000 * q);
            value(x, 3, 11, 0, q, 16000 - 1000 * q);
            value(x, 3, 12, 0, q, 16000);
        }
        for (int q : new int[] {-1, -2, 17, 18, Integer.MIN_VALUE, Integer.MAX_VALUE}) {
            value(x, 3, 0, 0, q, VOID);
        }
        // as one is served at t 2 and 12 others were there, one more comes in again: at t 1 LAST serves that one
        LastServed y = one(1, 1, 16, 0, 0, 99, 0);
        value(y, 2, 6, 6, 16, 0);
        value(y, 1, 12, 0, 16, 16000);
        // FIRST with 12 ahead: nobody behind changes it
        LastServed z = one(0, 1, 16, 0, 0, 0, 0);
        for (int q = 0; q <= 16; q += 8) {
            value(z, 13, 12, 0, q, 16000);
            value(z, 12, 12, 0, q, 0);
        }
    }

    private static void multiplesOfS() {
        for (int s = 1; s <= 9; s++) {
            LastServed x = one(0, s, 50, 1, 0, 0, 0);
            for (int t = 1; t <= 3 * s; t++) {
                // alone: it is the next multiple below or at t at which one is served, t less that minutes and one are paid
                int multiple = t / s * s;
                int due = multiple == 0 ? 0 : 50000 - 1000 * (t - multiple + 1);
                value(x, t, 0, 0, 0, due);
            }
            value(x, s, 1, 0, 0, 0);
            value(x, 2 * s, 1, 0, 0, 50000 - 1000 * (s + 1));
            value(x, 2 * s - 1, 1, 0, 0, 0);
        }
        // served ahead of that: who comes in that minute isn't there yet
        LastServed x = one(1, 1, 50, 0, 0, 99, 0);
        value(x, 1, 0, 0, 16, 50000);
    }

    private static void cutEachTime() {
        for (int w : new int[] {0, 1, 98, 99}) {
            value(one(0, 1, w, 0, 0, 0, 0), 1, 0, 0, 0, 1000 * w);
            value(one(3, 1, w, 0, 0, 99, 0), 1, 1, 1, 0, 1000 * w / 3);
            value(one(3, 1, w, 0, 0, 99, 0), 1, 6, 6, 0, 1000 * w / 13);
        }
        for (int i = 0; i <= 9; i += 3) {
            value(one(0, 9, 99, i, 0, 0, 0), 17, 0, 0, 0, 99000 - 9000 * i);
        }
        // LOT of 3, S 2, q 5: at t 2 a third of it; at t 3 with 5 of 16 a fourth of it, and each time cut
        LastServed x = one(3, 2, 10, 0, 0, 99, 0);
        int third = 10000 / 3;
        int fourth = 10000 / 4;
        value(x, 2, 1, 1, 5, third);
        value(x, 3, 1, 1, 5, (5 * fourth + 11 * third) / 16);
        int fifth = 10000 / 5;
        int three = (5 * fourth + 11 * third) / 16;
        int threeOfFour = (5 * fifth + 11 * fourth) / 16;
        // at t 4 one is served: 10000 once, and twice what follows with two: at t 3 that is of 2 and 3
        int half = 10000 / 2;
        int two = (5 * third + 11 * half) / 16;
        int follows = (5 * three + 11 * two) / 16;
        value(x, 4, 1, 1, 5, (10000 + 2 * follows) / 3);
        value(x, 3, 2, 1, 5, threeOfFour);
        Check.due("something was cut", third * 3 == 10000, false);
    }

    private static void atClosing() {
        for (int law = 0; law <= 3; law++) {
            LastServed x = one(law, 1, 99, 9, 9, 9, 9);
            LastServed y = one(law, 1, 99, 0, 0, 0, 0);
            for (int a = 0; a <= 12; a += 4) {
                for (int b = 0; a + b <= 12; b += 4) {
                    value(x, 0, a, b, 16, 0);
                    value(y, 0, a, b, 0, 0);
                    act(x, 0, a, b, 16, LEAVE);
                    act(y, 0, a, b, 0, LEAVE);
                }
            }
        }
        // no VALUE is below 0: it is 0 to LEAVE
        LastServed x = one(0, 2, 1, 1, 9, 99, 9);
        value(x, 1, 0, 0, 0, 0);
        value(x, 2, 0, 0, 0, 0);
        value(x, 2, 5, 5, 0, 0);
        LastServed dear = one(0, 2, 1, 9, 9, 99, 9);
        value(dear, 2, 0, 0, 0, 0);
        act(dear, 2, 0, 0, 0, LEAVE);
    }

    private static void toTurn() {
        // LAST with S 2 at t 2: to STAY with b behind is worth 0, to TURN the worth less the fee and the bow
        for (int fee : new int[] {0, 1, 49, 50, 51, 99}) {
            for (int bow : new int[] {0, 1, 9}) {
                for (int o : new int[] {0, 1, 9}) {
                    LastServed x = one(1, 2, 50, 0, o, fee, bow);
                    int turn = 50000 - 1000 * (fee + bow * o);
                    value(x, 2, 0, 1, 0, Math.max(0, turn));
                    value(x, 2, 5, 7, 16, Math.max(0, turn));
                    act(x, 2, 0, 1, 0, turn > 0 ? TURN : STAY);
                    value(x, 2, 0, 0, 0, 50000);
                    act(x, 2, 0, 0, 0, STAY);
                }
            }
        }
        // with a and b together ahead: by MIDDLE the last of 2 is served, but not the last of 3
        LastServed y = one(2, 1, 50, 0, 0, 1, 0);
        value(y, 1, 0, 1, 0, 49000);
        value(y, 1, 0, 2, 0, 0);
        value(y, 1, 1, 1, 0, 50000);
    }

    private static void toStay() {
        for (int i = 0; i <= 9; i++) {
            LastServed x = one(0, 2, 50, i, 0, 99, 0);
            value(x, 2, 0, 0, 0, 50000 - 1000 * i);
            value(x, 3, 0, 0, 0, 50000 - 2000 * i);
            // one ahead is served at t 4, and oneself at t 2
            value(x, 4, 1, 0, 0, 50000 - 3000 * i);
        }
        // one behind is served: by LAST with b 1 at t 2 of S 1, and then oneself
        LastServed y = one(1, 1, 50, 3, 0, 99, 0);
        value(y, 2, 0, 1, 0, 44000);
        value(y, 2, 4, 1, 0, 44000);
        value(y, 2, 4, 2, 0, 0);
        value(y, 3, 4, 2, 0, 41000);
        // with q one more may be behind then
        value(y, 2, 0, 1, 16, 0);
        value(y, 2, 0, 1, 8, (8 * 0 + 8 * 47000) / 16 - 3000);
        value(y, 2, 0, 1, 1, 15 * 47000 / 16 - 3000);
        value(y, 2, 0, 1, 15, 47000 / 16 < 3000 ? 0 : 47000 / 16 - 3000);
    }

    private static void byLot() {
        LastServed x = one(3, 1, 60, 0, 0, 99, 0);
        for (int n = 1; n <= 13; n++) {
            for (int a = 0; a < n; a++) {
                value(x, 1, a, n - 1 - a, 16, 60000 / n);
                // at t 2 without others who come: 60000 once, and n - 1 times the worth among n - 1
                int others = n == 1 ? 0 : (n - 1) * (60000 / (n - 1));
                value(x, 2, a, n - 1 - a, 0, (60000 + others) / n);
                // with one more each time: n - 1 times the worth among n
                value(x, 2, a, n - 1 - a, 16, (60000 + (n - 1) * (60000 / n)) / n);
            }
        }
        // less 1000 i behind the cut
        LastServed y = one(3, 1, 10, 1, 0, 99, 0);
        value(y, 1, 1, 1, 0, 3333 - 1000);
        // whoever stands where
        value(y, 1, 2, 0, 0, 2333);
        value(y, 1, 0, 2, 0, 2333);
    }

    private static void acts() {
        // of like ones to STAY: with F 0 and B 0 to TURN with none behind is the same
        act(one(1, 1, 50, 0, 0, 0, 0), 1, 3, 0, 0, STAY);
        act(one(0, 1, 50, 1, 0, 0, 0), 1, 0, 0, 0, STAY);
        // to TURN is worth more by 1000: TURN; with a fee of 1 more it is like to STAY at 0: STAY
        act(one(1, 1, 50, 0, 0, 49, 0), 1, 0, 1, 0, TURN);
        act(one(1, 1, 50, 0, 0, 50, 0), 1, 0, 1, 0, STAY);
        // to STAY is below 0 with i 1: to TURN at just 0 is TURN, below it LEAVE
        act(one(1, 1, 50, 1, 0, 48, 0), 1, 0, 1, 0, TURN);
        act(one(1, 1, 50, 1, 0, 49, 0), 1, 0, 1, 0, TURN);
        act(one(1, 1, 50, 1, 0, 50, 0), 1, 0, 1, 0, LEAVE);
        value(one(1, 1, 50, 1, 0, 49, 0), 1, 0, 1, 0, 0);
        // to STAY at just 0 is STAY, also where to LEAVE is the same
        act(one(0, 1, 5, 5, 0, 0, 0), 1, 0, 0, 0, STAY);
        act(one(0, 1, 4, 5, 0, 0, 0), 1, 0, 0, 0, LEAVE);
        act(one(0, 1, 6, 5, 0, 0, 0), 1, 0, 0, 0, STAY);
        act(one(0, 1, 0, 0, 0, 0, 0), 1, 12, 0, 0, STAY);
        // to STAY and to TURN both below 0
        act(one(0, 9, 99, 1, 0, 0, 0), 1, 0, 0, 0, LEAVE);
        byAThousandth();
    }

    /** To STAY at -1 and 1, to TURN at -1 and 1 with to STAY below, and one of both a thousandth above the other. */
    private static void byAThousandth() {
        act(one(3, 2, 7, 1, 2, 1, 0), 5, 0, 3, 0, LEAVE);
        act(one(2, 2, 1, 0, 2, 0, 2), 5, 0, 1, 14, STAY);
        value(one(2, 2, 1, 0, 2, 0, 2), 5, 0, 1, 14, 1);
        act(one(2, 2, 19, 2, 0, 8, 1), 7, 0, 3, 8, LEAVE);
        value(one(2, 2, 19, 2, 0, 8, 1), 7, 0, 3, 8, 0);
        act(one(2, 2, 16, 3, 1, 5, 0), 5, 0, 2, 5, TURN);
        value(one(2, 2, 16, 3, 1, 5, 0), 5, 0, 2, 5, 1);
        act(one(2, 1, 11, 0, 0, 0, 0), 5, 2, 3, 1, TURN);
        value(one(2, 1, 11, 0, 0, 0, 0), 5, 2, 3, 1, 11000);
        act(one(1, 1, 10, 0, 1, 1, 0), 4, 0, 3, 14, STAY);
        value(one(1, 1, 10, 0, 1, 1, 0), 4, 0, 3, 14, 9001);
    }

    private static void comingIn() {
        for (int fee : new int[] {0, 1, 98, 99}) {
            LastServed x = one(0, 1, 99, 0, 0, fee, 0);
            for (int n = 0; n <= 12; n++) {
                Check.due("at t 12 with " + n, x.entering(0, 0, 1200 + n, 0), (n < 12 ? 99000 : 0) - 1000 * fee);
                Check.due("at t 120 with " + n, x.entering(0, 0, 12000 + n, 0), 99000 - 1000 * fee);
                Check.due("at t 0 with " + n, x.entering(0, 0, n, 0), -1000 * fee);
            }
            for (int n : new int[] {13, 14, 99}) {
                Check.due("with " + n, x.entering(0, 0, 1200 + n, 0), VOID);
            }
        }
        // none behind: by LAST one is the last
        Check.due("by LAST", one(1, 1, 99, 0, 0, 0, 0).entering(0, 0, 112, 16), 99000);
    }

    private static int row(int... digits) {
        int row = 0;
        for (int k = digits.length - 1; k >= 0; k--) {
            row = row * 13 + digits[k];
        }
        return row;
    }

    private static void rowsOfWhen() {
        // by LAST with S 9 and i 5: the fewer minutes there are down to a multiple of 9, the more it is worth
        LastServed y = one(1, 9, 50, 5, 0, 0, 0);
        // 59 down to 54 are 6 that are paid, 49 to 45 5, 39 to 36 4, 29 to 27 3, 19 to 18 2, and at 9 it is 1
        Check.due("six places", y.when(0, 0, 59, 0, 0), 5);
        Check.due("five places", y.when(0, 0, 49, 0, 0), 4);
        Check.due("four places", y.when(0, 0, 39, 0, 0), 3);
        Check.due("three places", y.when(0, 0, 29, 0, 0), 2);
        Check.due("two places", y.when(0, 0, 19, 0, 0), 1);
        Check.due("one place", y.when(0, 0, 9, 0, 0), 0);
        Check.due("at t 8 nothing is worth anything", y.when(0, 0, 8, 0, 0), NONE);
        Check.due("no seventh place", y.when(0, 0, 69, 0, 0), 5);
        Check.due("t 10: at t 0 nothing", y.when(0, 0, 10, 0, 0), 0);
        // the digits: the lowest the soonest
        LastServed z = one(0, 1, 50, 1, 0, 0, 0);
        for (int best = 0; best < 6; best++) {
            int[] digits = {12, 12, 12, 12, 12, 12};
            digits[best] = 0;
            Check.due("0 at " + best, z.when(0, 0, 120, row(digits), 0), best);
            digits[best] = 11;
            Check.due("11 at " + best, z.when(0, 0, 120, row(digits), 0), best);
        }
        Check.due("the greatest row", z.when(0, 0, 120, row(12, 12, 12, 12, 12, 12), 0), 0);
        Check.due("the greatest row is 13 to the sixth less 1", row(12, 12, 12, 12, 12, 12), 4826808);
        // a place below 0 isn't one, whatever is told of it
        Check.due("t 9", z.when(0, 0, 9, row(8, 0, 0, 0, 0, 0), 0), 0);
        Check.due("t 9, nothing there", z.when(0, 0, 9, row(12, 0, 0, 0, 0, 0), 0), NONE);
        Check.due("t 49", z.when(0, 0, 49, row(12, 12, 12, 12, 5, 0), 0), 4);
    }

    private static void worthMost() {
        LastServed x = one(0, 1, 50, 1, 0, 0, 0);
        Check.due("of like ones the soonest", x.when(0, 0, 120, row(3, 3, 3, 3, 3, 3), 0), 0);
        Check.due("of like ones the soonest", x.when(0, 0, 120, row(9, 3, 7, 3, 3, 3), 0), 1);
        Check.due("the most", x.when(0, 0, 120, row(9, 3, 7, 2, 3, 2), 0), 3);
        // worth just 0 is not more than 0
        Check.due("just 0", one(0, 1, 50, 1, 0, 49, 0).when(0, 0, 120, 0, 0), NONE);
        Check.due("1000 more", one(0, 1, 50, 1, 0, 48, 0).when(0, 0, 120, 0, 0), 0);
        Check.due("below 0", one(0, 1, 50, 1, 0, 50, 0).when(0, 0, 120, 0, 0), NONE);
        Check.due("nothing to gain", one(0, 1, 0, 0, 0, 0, 0).when(0, 0, 120, 0, 0), NONE);
        // one thousandth above 0 and below it
        LastServed above = one(3, 3, 20, 0, 0, 5, 0);
        Check.due("worth 1", above.entering(0, 0, 502, 9), 1);
        Check.due("worth 1 is more than 0", above.when(0, 0, 5, row(2), 9), 0);
        LastServed below = one(3, 2, 7, 1, 2, 1, 0);
        Check.due("worth -1", below.entering(0, 0, 403, 0), -1);
        Check.due("worth -1 isn't", below.when(0, 0, 4, row(3), 0), NONE);
        Check.due("t 0", x.when(0, 0, 0, 0, 0), NONE);
        Check.due("t 1", x.when(0, 0, 1, 0, 0), 0);
    }

    private static void leastFees() {
        // LAST with S 1, i 0: to TURN is worth w less the fee, to STAY 0, so the fee is w
        for (int w : new int[] {0, 1, 2, 50, 98, 99}) {
            Check.due("w " + w, one(1, 1, w, 0, 0, 7, 0).least(0, 0, 1, 0), w);
        }
        // with i 1 to STAY is below 0, so that the fee has to be above w less 1
        for (int w : new int[] {1, 2, 50, 98, 99}) {
            Check.due("i 1, w " + w, one(1, 1, w, 1, 0, 7, 0).least(0, 0, 1, 0), w);
        }
        Check.due("i 2", one(1, 1, 50, 2, 0, 7, 0).least(0, 0, 1, 0), 49);
        Check.due("by FIRST nobody turns", one(0, 1, 99, 0, 0, 7, 0).least(0, 0, 60, 16), 0);
        Check.due("by LOT nobody turns", one(3, 1, 99, 0, 0, 7, 0).least(0, 0, 60, 16), 0);
        Check.due("by MIDDLE the first of two turns", one(2, 1, 50, 0, 0, 7, 0).least(0, 0, 1, 0), 50);
        Check.due("where nothing is worth a minute nobody turns", one(1, 1, 0, 9, 9, 7, 9).least(0, 0, 60, 0), 0);
        // the bow is so dear that nobody turns
        Check.due("a bow of 81", one(1, 1, 81, 0, 9, 0, 9).least(0, 0, 1, 0), 0);
        Check.due("a bow of 81, w 82", one(1, 1, 82, 0, 9, 0, 9).least(0, 0, 1, 0), 1);
        // t of at most so many: with S 9 nobody is served till 9
        LastServed x = one(1, 9, 50, 0, 0, 0, 0);
        for (int t = 1; t <= 8; t++) {
            Check.due("t " + t, x.least(0, 0, t, 0), 0);
        }
        Check.due("t 9", x.least(0, 0, 9, 0), 50);
        Check.due("t 60", x.least(0, 0, 60, 0), 50);
        // the told fee doesn't count
        for (int fee : new int[] {0, 50, 99}) {
            Check.due("told fee " + fee, one(1, 1, 33, 0, 0, fee, 0).least(0, 0, 5, 0), 33);
        }
        // with just that fee nobody turns, with one less somebody does
        LastServed with = one(1, 1, 33, 0, 0, 33, 0);
        LastServed less = one(1, 1, 33, 0, 0, 32, 0);
        act(with, 1, 0, 1, 0, STAY);
        act(less, 1, 0, 1, 0, TURN);
    }

    private static void sending() {
        LastServed x = one(0, 1, 99, 0, 0, 0, 0);
        for (int a = 0; a <= 11; a++) {
            for (int b = 0; a + b <= 11; b++) {
                // at t 12 all of 12 are served, the one sent in, too, if one is no more than the 12th
                int sent = a + b + 1 < 12 ? 99000 : 0;
                int own = 99000;
                Check.due("send with " + a + " and " + b, x.send(0, 0, place(12, a, b), 0, 0), sent - own);
            }
        }
        for (int c : new int[] {0, 1, 98, 99}) {
            for (int fee : new int[] {0, 1, 99}) {
                LastServed y = one(1, 2, 99, 0, 0, fee, 0);
                // by LAST at t 2: the one sent in is served, oneself stays behind or turns
                int own = 99000 - 1000 * fee;
                Check.due("c " + c + ", F " + fee, y.send(0, 0, place(2, 3, 1), 0, c), 99000 - 1000 * (fee + c) - own);
                Check.due("at t 0", y.send(0, 0, 0, 0, c), -1000 * (fee + c));
            }
        }
        // the greatest and the least
        Check.due("most", one(1, 1, 99, 9, 9, 0, 9).send(0, 0, place(1, 0, 0), 0, 0), 90000 - 90000);
        Check.due("least", one(0, 1, 99, 0, 0, 99, 0).send(0, 0, place(1, 0, 0), 0, 99), -198000 - 99000);
    }

    private static void placesOfValue() {
        LastServed x = Check.withTown("counter 0 1 9; counter 1 1 9; counter 3 1 9; sort a 0 10 9 0 0 0;"
            + "sort b 0 20 9 0 0 0; sort c 0 30 9 0 0 0; sort d 0 40 9 0 0 0; sort e 0 50 9 0 0 0; fee 99;");
        for (int sort = 0; sort < 5; sort++) {
            int w = 10000 * (sort + 1);
            Check.due("FIRST", x.value(sort, 0, 10012, 0, 0), w);
            Check.due("FIRST", x.value(sort, 0, 10100, 0, 0), 0);
            Check.due("LAST", x.value(sort, 1, 11200, 0, 0), w);
            Check.due("LAST", x.value(sort, 1, 10001, 0, 0), 0);
            Check.due("LOT", x.value(sort, 2, 10101, 0, 0), w / 3);
            Check.due("LOT, t 120", x.value(sort, 2, 1200000, 0, 0), w);
            Check.due("ACT", x.value(sort, 0, 1201200, 16, 1), STAY);
        }
        // it asks only: nothing of the shop counts or changes
        x.come(0, 0);
        x.go(3);
        Check.due("as before", x.value(0, 0, 10012, 0, 0), 10000);
        Check.due("MINUTE", x.count(2), 3);
        for (int b = 0; b <= 13; b++) {
            Check.due("t 0, b " + b, x.value(0, 0, b, 0, 0), b <= 12 ? 0 : VOID);
            Check.due("t 120, b " + b, x.value(0, 0, 1200000 + b, 0, 0), b <= 12 ? 10000 : VOID);
        }
        for (int a = 0; a <= 13; a++) {
            Check.due("t 120, a " + a, x.value(0, 0, 1200000 + 100 * a, 0, 0), a <= 12 ? 10000 : VOID);
        }
        Check.due("1209999", x.value(0, 0, 1209999, 0, 0), VOID);
        Check.due("1210000", x.value(0, 0, 1210000, 0, 0), VOID);
    }

    private static void noValue() {
        LastServed x = Check.withTown("counter 0 1 9;" + REST);
        for (int sort = -1; sort <= 5; sort++) {
            for (int counter = -1; counter <= 4; counter++) {
                boolean is = sort >= 0 && sort < 2 && (counter == 0 || counter == 2);
                Check.due("value(" + sort + ", " + counter + ")", x.value(sort, counter, 10000, 0, 0) != VOID, is);
            }
        }
        for (int what = -2; what <= 4; what++) {
            Check.due("what " + what, x.value(0, 0, 10000, 0, what) != VOID, what == 0 || what == 1);
        }
        for (int q = -2; q <= 18; q++) {
            for (int what = 0; what <= 1; what++) {
                Check.due("q " + q, x.value(0, 0, 10000, q, what) != VOID, q >= 0 && q <= 16);
            }
        }
        for (int far : FAR) {
            Check.due("sort " + far, x.value(far, 0, 10000, 0, 0), VOID);
            Check.due("counter " + far, x.value(0, far, 10000, 0, 0), VOID);
            Check.due("q " + far, x.value(0, 0, 10000, far, 0), VOID);
            Check.due("what " + far, x.value(0, 0, 10000, 0, far), VOID);
        }
        for (int place : new int[] {-1, -100, -10000, 13, 1300, 10013, 11300, 10607, 1210000, 9999999,
            Integer.MIN_VALUE, Integer.MAX_VALUE}) {
            Check.due("place " + place, x.value(0, 0, place, 0, 0), VOID);
            Check.due("place " + place, x.value(0, 0, place, 0, 1), VOID);
        }
        Check.due("without a TOWN", new LastServed().value(0, 0, 10000, 0, 0), VOID);
        Check.due("without a TOWN", new LastServed().value(0, 0, 0, 0, 1), VOID);
    }

    private static void noEntering() {
        LastServed x = Check.withTown("counter 0 1 9;" + REST);
        for (int sort = -1; sort <= 5; sort++) {
            for (int counter = -1; counter <= 4; counter++) {
                boolean is = sort >= 0 && sort < 2 && (counter == 0 || counter == 2);
                Check.due("entering(" + sort + ", " + counter + ")", x.entering(sort, counter, 100, 0) != VOID, is);
            }
        }
        for (int t : new int[] {0, 1, 119, 120, 121, 122}) {
            for (int n = 0; n <= 14; n++) {
                Check.due("t " + t + ", n " + n, x.entering(0, 0, t * 100 + n, 0) != VOID, t <= 120 && n <= 12);
            }
        }
        for (int q = -2; q <= 18; q++) {
            Check.due("q " + q, x.entering(0, 0, 100, q) != VOID, q >= 0 && q <= 16);
        }
        for (int far : FAR) {
            Check.due("sort " + far, x.entering(far, 0, 100, 0), VOID);
            Check.due("counter " + far, x.entering(0, far, 100, 0), VOID);
            Check.due("place " + far, x.entering(0, 0, far, 0), VOID);
            Check.due("q " + far, x.entering(0, 0, 100, far), VOID);
        }
        Check.due("without a TOWN", new LastServed().entering(0, 0, 0, 0), VOID);
    }

    private static void noWhen() {
        LastServed x = Check.withTown("counter 0 1 9;" + REST);
        for (int sort = -1; sort <= 5; sort++) {
            for (int counter = -1; counter <= 4; counter++) {
                boolean is = sort >= 0 && sort < 2 && (counter == 0 || counter == 2);
                Check.due("when(" + sort + ", " + counter + ")", x.when(sort, counter, 100, 0, 0), is ? 0 : NONE);
            }
        }
        for (int t = -2; t <= 123; t++) {
            Check.due("t " + t, x.when(0, 0, t, 0, 0), t >= 1 && t <= 120 ? 0 : NONE);
        }
        for (int row : new int[] {0, 1, 13, 371292, 371293, 4826807, 4826808}) {
            Check.due("row " + row, x.when(0, 0, 120, row, 0), 0);
        }
        for (int row : new int[] {-1, -13, 4826809, 4826810, 62748517, Integer.MIN_VALUE, Integer.MAX_VALUE}) {
            Check.due("row " + row, x.when(0, 0, 120, row, 0), NONE);
        }
        for (int q = -2; q <= 18; q++) {
            Check.due("q " + q, x.when(0, 0, 120, 0, q), q >= 0 && q <= 16 ? 0 : NONE);
        }
        for (int far : FAR) {
            Check.due("sort " + far, x.when(far, 0, 120, 0, 0), NONE);
            Check.due("counter " + far, x.when(0, far, 120, 0, 0), NONE);
            Check.due("t " + far, x.when(0, 0, far, 0, 0), NONE);
            Check.due("q " + far, x.when(0, 0, 120, 0, far), NONE);
        }
        Check.due("without a TOWN", new LastServed().when(0, 0, 120, 0, 0), NONE);
    }

    private static void noLeast() {
        LastServed x = Check.withTown("counter 1 1 9;" + REST);
        for (int sort = -1; sort <= 5; sort++) {
            for (int counter = -1; counter <= 4; counter++) {
                boolean is = sort >= 0 && sort < 2 && (counter == 0 || counter == 2);
                Check.due("least(" + sort + ", " + counter + ")", x.least(sort, counter, 1, 0) != NONE, is);
            }
        }
        for (int t = -2; t <= 63; t++) {
            Check.due("t " + t, x.least(0, 0, t, 0), t >= 1 && t <= 60 ? 10 : NONE);
        }
        for (int q = -2; q <= 18; q++) {
            Check.due("q " + q, x.least(0, 0, 1, q), q >= 0 && q <= 16 ? 10 : NONE);
        }
        for (int far : FAR) {
            Check.due("sort " + far, x.least(far, 0, 1, 0), NONE);
            Check.due("counter " + far, x.least(0, far, 1, 0), NONE);
            Check.due("t " + far, x.least(0, 0, far, 0), NONE);
            Check.due("q " + far, x.least(0, 0, 1, far), NONE);
        }
        Check.due("without a TOWN", new LastServed().least(0, 0, 1, 0), NONE);
    }

    private static void noSend() {
        LastServed x = Check.withTown("counter 1 1 9;" + REST);
        for (int sort = -1; sort <= 5; sort++) {
            for (int counter = -1; counter <= 4; counter++) {
                boolean is = sort >= 0 && sort < 2 && (counter == 0 || counter == 2);
                Check.due("send(" + sort + ", " + counter + ")", x.send(sort, counter, 10000, 0, 0) != VOID, is);
            }
        }
        for (int a = 0; a <= 13; a++) {
            for (int b = 0; b <= 13; b++) {
                Check.due("send with " + a + ", " + b, x.send(0, 0, place(1, a, b), 0, 0) != VOID, a + b + 1 <= 12);
            }
        }
        for (int t : new int[] {0, 1, 120, 121, 122}) {
            Check.due("t " + t, x.send(0, 0, place(t, 0, 0), 0, 0) != VOID, t <= 120);
        }
        for (int c = -2; c <= 102; c++) {
            Check.due("c " + c, x.send(0, 0, 10000, 0, c) != VOID, c >= 0 && c <= 99);
        }
        for (int q = -2; q <= 18; q++) {
            Check.due("q " + q, x.send(0, 0, 10000, q, 0) != VOID, q >= 0 && q <= 16);
        }
        for (int far : FAR) {
            Check.due("sort " + far, x.send(far, 0, 10000, 0, 0), VOID);
            Check.due("counter " + far, x.send(0, far, 10000, 0, 0), VOID);
            Check.due("q " + far, x.send(0, 0, 10000, far, 0), VOID);
            Check.due("c " + far, x.send(0, 0, 10000, 0, far), VOID);
        }
        for (int place : new int[] {-1, -10000, 99, 9900, 9999, 1210000, Integer.MIN_VALUE, Integer.MAX_VALUE}) {
            Check.due("place " + place, x.send(0, 0, place, 0, 0), VOID);
        }
        Check.due("without a TOWN", new LastServed().send(0, 0, 10000, 0, 0), VOID);
    }
}
