/** Promises 7 to 13, 15 and 16: each sentence that names an edge of what is asked of the shop or done by hand. */
public final class HandEdgesTest {
    private static final int NONE = LastServed.NONE;
    private static final int VOID = LastServed.VOID;
    private static final int[] FAR = {Integer.MIN_VALUE, Integer.MIN_VALUE + 1, -100, -2, 100, 1000, 65536,
        Integer.MAX_VALUE - 1, Integer.MAX_VALUE};
    private static final String TOWN = "counter 3 4 5; counter 8 9 0; sort a 0 66 222 8 9 2; sort b 0 9 240 0 0 0;"
        + "sort c 16 99 1 9 0 1; bow 2; fee 4; close 30;";

    public static void main(String[] args) {
        Sentences.holds("Of a COUNTER: 0 LAW, 1 S, 2 STOCK now, 3 how many INSIDE, 4 the MINUTE till which it is busy"
            + " (0 at first).", HandEdgesTest::factsOfCounters);
        Sentences.holds("(0 at first). NONE for others, or if there is none such.", HandEdgesTest::otherCounters);
        Sentences.holds("Of a SORT: 0 A, 1 W, 2 D, 3 I, 4 O, 5 G; 10 CAME, 11 SERVED, 12 gave UP, 13 WAITS together, 14"
            + " their squares, 15 the longest, 16 GAINED, 17 UNLIKE (VOID without SERVED).", HandEdgesTest::factsOfSorts);
        Sentences.holds("VOID for others, or if there is none such.", HandEdgesTest::otherSorts);
        Sentences.holds("x of the lots is so: true; false if it can't be.", HandEdgesTest::seeds);
        Sentences.holds("One of a SORT comes in at a COUNTER by hand: the number", HandEdgesTest::comingByHand);
        Sentences.holds("NONE without a TOWN, if there are none such, it is closed, or 30 are there.",
            HandEdgesTest::notComing);
        Sentences.holds("One who is INSIDE TURNS, by hand: true; false if there is none such.", HandEdgesTest::turning);
        Sentences.holds("One who is there gives UP, by hand: true; false if there is none such.", HandEdgesTest::leaving);
        Sentences.holds("Of one who is there: 0 SORT, 1 COUNTER, 2 0 INSIDE, 1 bowing, 2 waiting OUTSIDE, 3 when at first,"
            + " 4 when last in (NONE while never), 5 turns, 6 the place in the order (NONE OUTSIDE), 7 till when bowing"
            + " (NONE).", HandEdgesTest::factsOfPeople);
        Sentences.holds("7 till when bowing (NONE). NONE for others, or if there is none such.", HandEdgesTest::otherPeople);
        Sentences.holds("The k-th INSIDE of a COUNTER, in the order in which they came in; NONE if there is none.",
            HandEdgesTest::inside);
        Sentences.holds("n MINUTES (1 .. 240) go by (at most till T): the MINUTE", HandEdgesTest::minutes);
        Sentences.holds("NONE without a TOWN, or if they can't be.", HandEdgesTest::minutesThatCannotBe);
        Check.close("HandEdgesTest");
    }

    private static void row(String of, int[] got, int... due) {
        for (int k = 0; k < due.length; k++) {
            Check.due(of + ", fact " + k, got[k], due[k]);
        }
    }

    private static int[] counter(LastServed x, int counter) {
        int[] facts = new int[5];
        for (int what = 0; what < 5; what++) {
            facts[what] = x.counter(counter, what);
        }
        return facts;
    }

    private static int[] person(LastServed x, int person) {
        int[] facts = new int[8];
        for (int what = 0; what < 8; what++) {
            facts[what] = x.person(person, what);
        }
        return facts;
    }

    private static void factsOfCounters() {
        LastServed x = Check.withTown(TOWN);
        row("counter 0", counter(x, 0), 3, 4, 5, 0, 0);
        row("counter 1", counter(x, 1), 8, 9, 0, 0, 0);
        x.come(0, 0);
        x.come(1, 0);
        x.come(1, 1);
        row("counter 0", counter(x, 0), 3, 4, 5, 2, 0);
        row("counter 1", counter(x, 1), 8, 9, 0, 1, 0);
        x.turn(0);
        row("counter 0 with one outside", counter(x, 0), 3, 4, 5, 1, 0);
        LastServed y = Check.withTown("counter 0 9 99; sort a 0 1 240 0 0 0; close 240;");
        for (int k = 0; k < 30; k++) {
            y.come(0, 0);
        }
        row("full", counter(y, 0), 0, 9, 99, 30, 0);
        y.go(1);
        row("one is served", counter(y, 0), 0, 9, 98, 29, 9);
        y.go(239);
        row("at T", counter(y, 0), 0, 9, 99 - 27, 0, 243);
    }

    private static void otherCounters() {
        for (int counters = 1; counters <= 3; counters++) {
            LastServed x = Check.withTown("counter 0 1 1;".repeat(counters) + "sort a 0 1 1 1 1 1;");
            for (int counter = -1; counter <= 4; counter++) {
                for (int what = -1; what <= 6; what++) {
                    boolean is = counter >= 0 && counter < counters && what >= 0 && what <= 4;
                    Check.due("counter(" + counter + ", " + what + ") of " + counters,
                        x.counter(counter, what) != NONE, is);
                }
            }
            for (int far : FAR) {
                Check.due("counter(" + far + ", 0)", x.counter(far, 0), NONE);
                Check.due("counter(0, " + far + ")", x.counter(0, far), NONE);
            }
        }
        for (int what = -1; what <= 5; what++) {
            Check.due("without a TOWN", new LastServed().counter(0, what), NONE);
        }
    }

    private static void factsOfSorts() {
        LastServed x = Check.withTown("counter 0 2 9; sort a 0 66 222 8 9 2; sort b 16 0 1 0 0 0; fee 4;");
        x.come(0, 0);
        x.come(0, 0);
        x.come(0, 0);
        x.leave(1);
        int[] due = {0, 66, 222, 8, 9, 2, VOID, VOID, VOID, VOID, 3, 0, 1, 0, 0, 0, -12, VOID};
        for (int what = 0; what < due.length; what++) {
            Check.due("sort(0, " + what + ")", x.sort(0, what), due[what]);
        }
        x.go(3);
        int[] then = {0, 66, 222, 8, 9, 2, VOID, VOID, VOID, VOID, 3, 2, 1, 2, 4, 2, 132 - 12 - 16, 1};
        for (int what = 0; what < then.length; what++) {
            Check.due("then sort(0, " + what + ")", x.sort(0, what), then[what]);
        }
        int[] other = {16, 0, 1, 0, 0, 0, VOID, VOID, VOID, VOID, 3, 0, 3, 0, 0, 0, -12, VOID};
        for (int what = 0; what < other.length; what++) {
            Check.due("sort(1, " + what + ")", x.sort(1, what), other[what]);
        }
    }

    private static void otherSorts() {
        for (int sorts = 1; sorts <= 5; sorts++) {
            StringBuilder text = new StringBuilder("counter 0 1 1;");
            for (int k = 0; k < sorts; k++) {
                text.append("sort ").append((char) ('a' + k)).append(" 1 1 1 1 1 1;");
            }
            LastServed x = Check.withTown(text.toString());
            for (int sort = -1; sort <= 6; sort++) {
                for (int what = -1; what <= 19; what++) {
                    boolean is = sort >= 0 && sort < sorts && (what >= 0 && what <= 5 || what >= 10 && what <= 16);
                    Check.due("sort(" + sort + ", " + what + ") of " + sorts, x.sort(sort, what) != VOID, is);
                }
            }
            for (int far : FAR) {
                Check.due("sort(" + far + ", 0)", x.sort(far, 0), VOID);
                Check.due("sort(0, " + far + ")", x.sort(0, far), VOID);
            }
        }
        for (int what = -1; what <= 18; what++) {
            Check.due("without a TOWN", new LastServed().sort(0, what), VOID);
        }
    }

    private static void seeds() {
        LastServed x = Check.withTown(TOWN);
        for (int seed : new int[] {0, 1, 999999, 1000000}) {
            Check.due("seed(" + seed + ")", x.seed(seed), true);
        }
        for (int seed : new int[] {-1, -1000000, 1000001, Integer.MAX_VALUE, Integer.MIN_VALUE}) {
            Check.due("seed(" + seed + ")", x.seed(seed), false);
        }
        // a lot of 0 is the first of seed 0, and one of 15 is the first of another
        LastServed y = Check.withTown("counter 0 1 0; sort a 1 1 9 0 0 0;");
        y.seed(Lots.seedOf(15));
        y.seed(-1);
        y.go(1);
        Check.due("a refused seed leaves x", y.sort(0, 10), 0);
        y.seed(0);
        y.go(1);
        Check.due("a seed is taken", y.sort(0, 10), 1);
    }

    private static void comingByHand() {
        LastServed x = Check.withTown(TOWN);
        for (int k = 0; k < 30; k++) {
            Check.due("come", x.come(k % 3, k % 2), k);
            row("person " + k, person(x, k), k % 3, k % 2, 0, 0, 0, 0, k / 2, NONE);
        }
        Check.due("fees", x.sort(0, 16) + x.sort(1, 16) + x.sort(2, 16), -120);
        // of way 2 one comes in by hand, too, whoever is INSIDE
        LastServed y = Check.withTown("counter 0 1 0; sort a 0 1 9 0 0 2;");
        y.come(0, 0);
        y.come(0, 0);
        Check.due("INSIDE", y.counter(0, 3), 2);
        // to the counter that is named, not to the one with fewest
        LastServed z = Check.withTown("counter 0 1 0; counter 0 1 0; sort a 0 1 9 0 0 0;");
        z.come(0, 1);
        z.come(0, 1);
        Check.due("INSIDE", z.counter(1, 3), 2);
    }

    private static void notComing() {
        Check.due("without a TOWN", new LastServed().come(0, 0), NONE);
        LastServed x = Check.withTown(TOWN);
        for (int sort = -1; sort <= 4; sort++) {
            for (int counter = -1; counter <= 3; counter++) {
                boolean is = sort >= 0 && sort < 3 && counter >= 0 && counter < 2;
                Check.due("come(" + sort + ", " + counter + ")", x.come(sort, counter) != NONE, is);
            }
        }
        for (int far : FAR) {
            Check.due("come(" + far + ", 0)", x.come(far, 0), NONE);
            Check.due("come(0, " + far + ")", x.come(0, far), NONE);
        }
        Check.due("there", x.count(7), 6);
        Check.due("CAME", x.sort(0, 10) + x.sort(1, 10) + x.sort(2, 10), 6);
        LastServed y = Check.withTown(TOWN);
        y.go(29);
        Check.due("at T - 1", y.come(0, 0) != NONE, true);
        y.go(1);
        int came = y.sort(0, 10);
        Check.due("closed", y.come(0, 0), NONE);
        Check.due("CAME", y.sort(0, 10), came);
        LastServed z = Check.withTown("counter 0 1 0; sort a 0 1 9 0 0 0;");
        for (int k = 0; k < 30; k++) {
            Check.due("come", z.come(0, 0), k);
        }
        Check.due("30 are there", z.come(0, 0), NONE);
        Check.due("CAME", z.sort(0, 10), 30);
        Check.due("INSIDE", z.counter(0, 3), 30);
        z.leave(17);
        Check.due("29 are there", z.come(0, 0), 17);
    }

    private static void turning() {
        LastServed x = Check.withTown("counter 0 1 0; sort a 0 1 240 0 0 0; bow 3; fee 2;");
        for (int k = 0; k < 30; k++) {
            x.come(0, 0);
        }
        for (int person : new int[] {-1, 30, 31, Integer.MIN_VALUE, Integer.MAX_VALUE}) {
            Check.due("turn(" + person + ")", x.turn(person), false);
        }
        Check.due("INSIDE", x.counter(0, 3), 30);
        Check.due("turn(0)", x.turn(0), true);
        Check.due("turn(29), the last", x.turn(29), true);
        row("0 bows", person(x, 0), 0, 0, 1, 0, 0, 1, NONE, 3);
        Check.due("turn(0) while bowing", x.turn(0), false);
        row("0 bows as before", person(x, 0), 0, 0, 1, 0, 0, 1, NONE, 3);
        x.leave(5);
        Check.due("turn of one who is gone", x.turn(5), false);
        Check.due("without a TOWN", new LastServed().turn(0), false);
        // who waits outside doesn't turn
        LastServed y = Check.withTown("counter 0 1 0; sort a 16 1 240 0 0 2; bow 3;");
        y.go(2);
        Check.due("waits", y.person(1, 2), 2);
        Check.due("turn while waiting", y.turn(1), false);
        row("1 waits as before", person(y, 1), 0, 0, 2, 1, NONE, 0, NONE, NONE);
        // one alone turns by hand, with B 0, too
        LastServed z = Check.withTown("counter 0 1 0; sort a 0 1 240 0 0 0; fee 2;");
        z.come(0, 0);
        Check.due("turn of one alone", z.turn(0), true);
        row("in again at once", person(z, 0), 0, 0, 0, 0, 0, 1, 0, NONE);
        Check.due("fees", z.sort(0, 16), -4);
        for (int k = 2; k <= 100; k++) {
            z.turn(0);
        }
        Check.due("a hundred turns", z.person(0, 5), 100);
        Check.due("a hundred fees and one", z.sort(0, 16), -202);
    }

    private static void leaving() {
        LastServed x = Check.withTown("counter 0 1 0; sort a 0 1 240 0 0 0; sort b 16 1 240 0 0 2; bow 3;");
        for (int k = 0; k < 29; k++) {
            x.come(0, 0);
        }
        x.go(1);
        x.turn(3);
        Check.due("29 waits", x.person(29, 2), 2);
        for (int person : new int[] {-1, 30, 31, Integer.MIN_VALUE, Integer.MAX_VALUE}) {
            Check.due("leave(" + person + ")", x.leave(person), false);
        }
        Check.due("there", x.count(7), 30);
        Check.due("leave(0), INSIDE", x.leave(0), true);
        Check.due("leave(3), bowing", x.leave(3), true);
        Check.due("leave(29), waiting", x.leave(29), true);
        Check.due("gave UP", x.sort(0, 12) * 10 + x.sort(1, 12), 21);
        for (int person : new int[] {0, 3, 29}) {
            Check.due("leave once more", x.leave(person), false);
            row("gone", person(x, person), NONE, NONE, NONE, NONE, NONE, NONE, NONE, NONE);
        }
        Check.due("gave UP", x.sort(0, 12) * 10 + x.sort(1, 12), 21);
        Check.due("there", x.count(7), 27);
        Check.due("INSIDE", x.counter(0, 3), 27);
        Check.due("the first INSIDE", x.inside(0, 0), 1);
        Check.due("without a TOWN", new LastServed().leave(0), false);
        // who was served is there no more
        LastServed y = Check.withTown("counter 0 1 1; sort a 0 1 240 0 0 0;");
        y.come(0, 0);
        y.go(1);
        Check.due("leave of one who was served", y.leave(0), false);
        Check.due("gave UP", y.sort(0, 12), 0);
    }

    private static void factsOfPeople() {
        LastServed x = Check.withTown("counter 0 1 0; counter 0 1 0; sort a 0 1 240 0 0 0; sort b 8 1 240 0 0 2; bow 3;");
        // in the first two minutes one of sort b comes, in the next ones nobody
        x.seed(Lots.seedOf(2, "11000"));
        x.come(0, 0);
        x.come(0, 1);
        x.come(0, 1);
        x.go(1);
        row("waits, never in", person(x, 3), 1, 0, 2, 0, NONE, 0, NONE, NONE);
        x.turn(1);
        row("bows", person(x, 1), 0, 1, 1, 0, 0, 1, NONE, 4);
        row("in", person(x, 0), 0, 0, 0, 0, 0, 0, 0, NONE);
        row("in, now first", person(x, 2), 0, 1, 0, 0, 0, 0, 0, NONE);
        x.go(1);
        row("waits", person(x, 4), 1, 0, 2, 1, NONE, 0, NONE, NONE);
        x.leave(0);
        x.go(1);
        row("in for the first time", person(x, 3), 1, 0, 0, 0, 2, 0, 0, NONE);
        x.go(2);
        row("in again", person(x, 1), 0, 1, 0, 0, 4, 1, 1, NONE);
        x.turn(3);
        row("bows, of sort b", person(x, 3), 1, 0, 1, 0, 2, 1, NONE, 8);
    }

    private static void otherPeople() {
        LastServed x = Check.withTown("counter 0 1 0; sort a 0 1 240 0 0 0;");
        x.come(0, 0);
        for (int k = 1; k < 30; k++) {
            row("nobody", person(x, k), NONE, NONE, NONE, NONE, NONE, NONE, NONE, NONE);
        }
        for (int k = 1; k < 30; k++) {
            x.come(0, 0);
        }
        for (int person : new int[] {-1, 30, 31, Integer.MIN_VALUE, Integer.MAX_VALUE}) {
            row("no number", person(x, person), NONE, NONE, NONE, NONE, NONE, NONE, NONE, NONE);
        }
        row("the last one", person(x, 29), 0, 0, 0, 0, 0, 0, 29, NONE);
        for (int what : new int[] {-1, 8, 9, 10, 16, Integer.MIN_VALUE, Integer.MAX_VALUE}) {
            Check.due("person(0, " + what + ")", x.person(0, what), NONE);
        }
        row("without a TOWN", person(new LastServed(), 0), NONE, NONE, NONE, NONE, NONE, NONE, NONE, NONE);
    }

    private static void inside() {
        LastServed x = Check.withTown("counter 0 1 0; counter 0 1 0; sort a 0 1 240 0 0 0;");
        for (int many = 0; many <= 29; many++) {
            for (int k : new int[] {-2, -1, 0, many - 1, many, many + 1, 29, 30}) {
                Check.due("inside(0, " + k + ") of " + many, x.inside(0, k), k >= 0 && k < many ? k : NONE);
            }
            x.come(0, 0);
        }
        for (int far : FAR) {
            Check.due("inside(0, " + far + ")", x.inside(0, far), NONE);
            Check.due("inside(" + far + ", 0)", x.inside(far, 0), NONE);
        }
        for (int counter : new int[] {-1, 1, 2, 3}) {
            Check.due("inside(" + counter + ", 0)", x.inside(counter, 0), NONE);
        }
        Check.due("without a TOWN", new LastServed().inside(0, 0), NONE);
        // the order is that of coming in
        x.turn(0);
        Check.due("the first", x.inside(0, 0), 1);
        Check.due("the last", x.inside(0, 29), 0);
    }

    private static void minutes() {
        for (int close : new int[] {10, 120, 239, 240}) {
            for (int n : new int[] {1, 2, 9, 10, 11, 119, 120, 121, 238, 239, 240}) {
                LastServed x = Check.withTown("counter 0 1 0; sort a 0 1 240 0 0 0; close " + close + ";");
                Check.due("go(" + n + ") till " + close, x.go(n), Math.min(n, close));
                Check.due("MINUTE", x.count(2), Math.min(n, close));
                Check.due("go(" + n + ") once more", x.go(n), Math.min(2 * n, close));
                Check.due("MINUTE", x.count(2), Math.min(2 * n, close));
            }
        }
    }

    private static void minutesThatCannotBe() {
        for (int n : new int[] {0, -1, -240, 241, 242, 1000, Integer.MIN_VALUE, Integer.MAX_VALUE}) {
            LastServed x = Check.withTown("counter 0 1 9; sort a 16 1 240 0 0 0; close 240;");
            x.go(5);
            Check.due("go(" + n + ")", x.go(n), NONE);
            Check.due("MINUTE", x.count(2), 5);
            Check.due("CAME", x.sort(0, 10), 5);
        }
        for (int n : new int[] {0, 1, 240, 241}) {
            LastServed x = new LastServed();
            Check.due("go(" + n + ") without a TOWN", x.go(n), NONE);
            Check.due("MINUTE", x.count(2), 0);
        }
        // at T, too
        LastServed y = Check.withTown("counter 0 1 9; sort a 16 1 240 0 0 0; close 10;");
        y.go(10);
        Check.due("go(241) at T", y.go(241), NONE);
        Check.due("go(0) at T", y.go(0), NONE);
        Check.due("go(240) at T", y.go(240), 10);
    }
}
