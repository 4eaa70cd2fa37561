import java.util.Random;

/** Promises 17 to 21: comer, clear, waits, lot, best. */
public final class RowTest {
    private static final int NONE = LastServed.NONE;

    public static void main(String[] args) {
        comersThatCanBe();
        clearing();
        waitsByPlaces();
        waitsByToldLaws();
        waitsForOthers();
        idleMinutes();
        lotOfTwo();
        bestOfLaws();
        likeAPlainReckoning();
        Check.close("RowTest");
    }

    private static LastServed ofRow(int... numbers) {
        LastServed x = new LastServed();
        for (int k = 0; k < numbers.length; k += 2) {
            Check.due("comer", x.comer(numbers[k], numbers[k + 1]), k / 2 + 1);
        }
        return x;
    }

    private static void comersThatCanBe() {
        LastServed x = ofRow(0, 1, 0, 20);
        Check.due("comer(-1, 1)", x.comer(-1, 1), NONE);
        Check.due("comer(201, 1)", x.comer(201, 1), NONE);
        Check.due("comer(5, 0)", x.comer(5, 0), NONE);
        Check.due("comer(5, 21)", x.comer(5, 21), NONE);
        Check.due("comer(5, 5)", x.comer(5, 5), 3);
        Check.due("a minute less than the one ahead", x.comer(4, 5), NONE);
        Check.due("comers", x.count(8), 3);
        for (int k = 4; k <= 8; k++) {
            Check.due("comer " + k, x.comer(200, 20), k);
        }
        Check.due("a ninth", x.comer(200, 20), NONE);
        Check.due("comers", x.count(8), 8);
    }

    private static void clearing() {
        LastServed x = ofRow(150, 3, 160, 4);
        Check.due("clear()", x.clear(), 2);
        Check.due("clear() again", x.clear(), 0);
        Check.due("comers", x.count(8), 0);
        Check.due("an earlier minute may come again", x.comer(0, 1), 1);
        Check.due("waits of the new row", x.waits(0, 0, 0), 0);
        Check.due("the second one less than the first", ofRow(7, 1).comer(6, 1), NONE);
        LastServed y = ofRow(0, 9, 0, 8, 0, 7, 0, 6, 0, 5, 0, 4, 0, 3, 0, 2);
        for (int what = 2; what <= 4; what++) {
            Check.due("eight have waited", y.waits(1, 0, what) > 0, true);
        }
        y.clear();
        y.comer(4, 4);
        for (int what = 2; what <= 4; what++) {
            Check.due("nothing is left of the row ahead", y.waits(1, 0, what), 0);
        }
    }

    private static void served(LastServed x, int law, int... who) {
        for (int k = 0; k < who.length; k++) {
            Check.due("law " + law + " serves " + k + "-th", x.waits(law, k, 0), who[k]);
        }
    }

    private static void waited(LastServed x, int law, int... waits) {
        for (int k = 0; k < waits.length; k++) {
            Check.due("law " + law + " wait of " + k, x.waits(law, k, 1), waits[k]);
        }
    }

    private static void waitsByPlaces() {
        LastServed x = ofRow(0, 10, 1, 3, 2, 4, 10, 5, 11, 1);
        served(x, 0, 0, 1, 2, 3, 4, NONE);
        waited(x, 0, 0, 9, 11, 7, 11, NONE);
        Check.due("together", x.waits(0, 77, 2), 38);
        Check.due("longest", x.waits(0, -5, 4), 11);
        // squares 0 + 81 + 121 + 49 + 121 = 372; 5 * 372 - 38 * 38 = 416; by 25
        Check.due("UNLIKE", x.waits(0, 9, 3), 16);
        served(x, 1, 0, 3, 4, 2, 1);
        waited(x, 1, 0, 19, 14, 0, 4);
        // at 10 of 1, 2, 3: 2; at 14 of 1, 3, 4: 3; at 19 of 1, 4: 4
        served(x, 2, 0, 2, 3, 4, 1);
        waited(x, 2, 0, 19, 8, 4, 8);
    }

    private static void waitsByToldLaws() {
        LastServed x = ofRow(0, 10, 1, 3, 2, 4, 10, 5, 11, 1);
        Check.tellLaws(x, "law least sort; law most wait; law most (minute < 12) * (came = 2);"
            + "law most (left = 190) * (ahead = 1) + worth + turns; law most (many = 3) * behind;");
        served(x, 4, 0, 1, 4, 2, 3);
        served(x, 5, 0, 1, 2, 3, 4);
        served(x, 6, 0, 2, 4, 3, 1);
        served(x, 7, 0, 2, 4, 3, 1);
        served(x, 8, 0, 1, 2, 4, 3);
        x.clear();
        Check.due("comer", x.comer(3, 2), 1);
        Check.due("comer", x.comer(3, 2), 2);
        Check.due("like ones go to the last", x.waits(4, 0, 0), 1);
        Check.tellLaws(x, "law most (worth = 0) * behind; law most (turns = 0) * behind;");
        Check.due("of a comer worth is 0", x.waits(4, 0, 0), 0);
        Check.due("of a comer turns is 0", x.waits(5, 0, 0), 0);
        Check.due("FIRST of the same minute", x.waits(0, 0, 0), 0);
    }

    private static void waitsForOthers() {
        LastServed x = new LastServed();
        for (int what = 0; what <= 4; what++) {
            Check.due("without comers", x.waits(0, 0, what), NONE);
        }
        Check.due("lot without comers", x.lot(), NONE);
        Check.due("best without comers", x.best(), NONE);
        x.comer(0, 1);
        for (int what = 0; what <= 4; what++) {
            Check.due("by LOT", x.waits(3, 0, what), NONE);
            Check.due("by law -1", x.waits(-1, 0, what), NONE);
            Check.due("by law 9", x.waits(9, 0, what), NONE);
            Check.due("by law 8, as LAST", x.waits(8, 0, what), 0);
        }
        Check.due("what -1", x.waits(0, 0, -1), NONE);
        Check.due("what 5", x.waits(0, 0, 5), NONE);
        Check.due("k -1", x.waits(0, -1, 0), NONE);
        Check.due("k -1", x.waits(0, -1, 1), NONE);
        Check.due("k 1", x.waits(0, 1, 0), NONE);
        Check.due("k 1", x.waits(0, 1, 1), NONE);
    }

    private static void idleMinutes() {
        LastServed x = ofRow(5, 2, 50, 3, 51, 4, 200, 20);
        waited(x, 0, 0, 0, 2, 0);
        waited(x, 1, 0, 0, 2, 0);
        Check.due("lot", x.lot(), 2000);
    }

    private static void lotOfTwo() {
        LastServed x = ofRow(0, 10, 1, 3, 2, 4, 3, 6);
        // at 10: 1, 2 or 3, waits 9, 8, 7; then two are left in both orders
        // behind 1 at 13: 11 + 10 and the mean of 4 and 6 = 26; behind 2 at 14: 13 + 11 and of 3, 6: 28.5
        // behind 3 at 16: 15 + 14 and of 3, 4: 32.5; the mean of 35, 36.5, 39.5
        Check.due("lot", x.lot(), 37000);
        LastServed y = ofRow(0, 1, 0, 1, 0, 2);
        // behind 0: 1 + 1 + mean(1, 2) = 3.5, behind 1 alike, behind 2: 2 + 2 + 1 = 5; 12 by 3
        Check.due("lot", y.lot(), 4000);
        LastServed z = ofRow(0, 1, 0, 1, 0, 3);
        // behind 0: 2 + mean(1, 3) = 4, alike, behind 2: 6 + 1 = 7; 15 by 3
        Check.due("lot", z.lot(), 5000);
        LastServed one = ofRow(9, 9);
        Check.due("lot of one", one.lot(), 0);
    }

    private static void bestOfLaws() {
        LastServed x = ofRow(0, 10, 1, 1, 2, 9, 3, 8);
        Check.due("FIRST is best of three", x.best(), 0);
        Check.tellLaws(x, "law most sort; law least sort;");
        Check.due("the shortest first is best", x.best(), 5);
        Check.due("as by hand", x.best(), bestByHand(x, 2));
        LastServed y = ofRow(0, 5, 1, 1, 2, 1);
        Check.due("of like ones by the longest", y.best(), 0);
        LastServed z = ofRow(0, 1);
        Check.tellLaws(z, "law most sort;");
        Check.due("of like ones the least", z.best(), 0);
        // FIRST waits 0, 4, 12 and LAST 0, 3, 5, MIDDLE likewise
        LastServed w = ofRow(0, 5, 1, 9, 2, 1);
        Check.due("LAST is better than FIRST, MIDDLE is like it", w.best(), 1);
    }

    private static int bestByHand(LastServed x, int told) {
        int best = NONE;
        for (int law = 0; law < 4 + told; law++) {
            if (law == 3) {
                continue;
            }
            if (best == NONE || x.waits(law, 0, 2) < x.waits(best, 0, 2)
                || x.waits(law, 0, 2) == x.waits(best, 0, 2) && x.waits(law, 0, 4) < x.waits(best, 0, 4)) {
                best = law;
            }
        }
        return best;
    }

    /** The mean as the document says it, by every order in which they may be served. */
    private static long mean(int[] came, int[] takes, boolean[] served, int free) {
        int next = NONE;
        for (int k = came.length - 1; k >= 0; k--) {
            next = served[k] ? next : k;
        }
        if (next == NONE) {
            return 0;
        }
        int minute = Math.max(free, came[next]);
        long sum = 0;
        int many = 0;
        for (int k = 0; k < came.length; k++) {
            if (!served[k] && came[k] <= minute) {
                served[k] = true;
                sum += 1000L * (minute - came[k]) + mean(came, takes, served, minute + takes[k]);
                served[k] = false;
                many++;
            }
        }
        return sum / many;
    }

    /** What a law asks of a comer: who has the most is next, of like ones the last. */
    private interface Wish {
        long worth(int minute, int came, int takes, int ahead, int many);
    }

    private static final String TOLD = "law least sort*9-wait; law most (many<3)*came+(2<many)*behind;"
        + "law most (left*3<500)*ahead+(minute-came=wait)*behind*2; law least worth+turns+(sort<7); law least sort*many;";

    private static final Wish[] WISHES = {
        (m, c, t, a, n) -> -a,
        (m, c, t, a, n) -> a,
        (m, c, t, a, n) -> a == n / 2 ? 1 : 0,
        null,
        (m, c, t, a, n) -> -(t * 9 - (m - c)),
        (m, c, t, a, n) -> n < 3 ? c : n - 1 - a,
        (m, c, t, a, n) -> ((200 - m) * 3 < 500 ? a : 0) + (n - 1 - a) * 2,
        (m, c, t, a, n) -> t < 7 ? -1 : 0,
        (m, c, t, a, n) -> -t * n};

    private static void servedLike(LastServed x, int law, int[] came, int[] takes, String of) {
        boolean[] served = new boolean[came.length];
        int minute = 0;
        long sum = 0;
        long squares = 0;
        long longest = 0;
        for (int k = 0; k < came.length; k++) {
            java.util.List<Integer> there = new java.util.ArrayList<>();
            for (int step = 0; step <= 200 && there.isEmpty(); step++) {
                minute += step == 0 ? 0 : 1;
                for (int who = 0; who < came.length; who++) {
                    if (!served[who] && came[who] <= minute) {
                        there.add(who);
                    }
                }
            }
            int next = NONE;
            long best = 0;
            for (int place = 0; place < there.size(); place++) {
                int who = there.get(place);
                long worth = WISHES[law].worth(minute, came[who], takes[who], place, there.size());
                if (next == NONE || worth >= best) {
                    next = who;
                    best = worth;
                }
            }
            long wait = minute - came[next];
            Check.due("served " + k + of, x.waits(law, k, 0), next);
            Check.due("wait of " + next + of, x.waits(law, next, 1), wait);
            served[next] = true;
            minute += takes[next];
            sum += wait;
            squares += wait * wait;
            longest = Math.max(longest, wait);
        }
        long n = came.length;
        Check.due("together" + of, x.waits(law, 0, 2), sum);
        Check.due("UNLIKE" + of, x.waits(law, 0, 3), (n * squares - sum * sum) / (n * n));
        Check.due("longest" + of, x.waits(law, 0, 4), longest);
    }

    private static void likeAPlainReckoning() {
        Random random = new Random(5);
        for (int run = 0; run < 150; run++) {
            int many = 1 + random.nextInt(8);
            int step = 1 + random.nextInt(20);
            int[] came = new int[many];
            int[] takes = new int[many];
            LastServed x = new LastServed();
            for (int k = 0; k < many; k++) {
                came[k] = (k == 0 ? 0 : came[k - 1]) + random.nextInt(step);
                takes[k] = 1 + random.nextInt(20);
                x.comer(came[k], takes[k]);
            }
            Check.due("lot in run " + run, x.lot(), mean(came, takes, new boolean[many], 0));
            Check.due("best in run " + run, x.best(), bestByHand(x, 0));
            Check.tellLaws(x, TOLD);
            Check.due("best of all in run " + run, x.best(), bestByHand(x, 5));
            for (int law = 0; law <= 8; law++) {
                if (law != 3) {
                    servedLike(x, law, came, takes, " by " + law + " in run " + run);
                }
            }
        }
    }
}
