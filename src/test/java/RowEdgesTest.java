/** Terms 4 and promises 17 to 23: each sentence that names an edge of the row of comers or of the book. */
public final class RowEdgesTest {
    private static final int NONE = LastServed.NONE;
    private static final int[] FAR = {Integer.MIN_VALUE, -65536, -100, 100, 65536, Integer.MAX_VALUE};

    public static void main(String[] args) {
        theRow();
        thePromisesOfTheRow();
        theBook();
        Check.close("RowEdgesTest");
    }

    private static void theRow() {
        Sentences.holds("A ROW has at most 8 COMERS", RowEdgesTest::eightComers);
        Sentences.holds("a minute (0 .. 200, no less than the one ahead)", RowEdgesTest::minutesOfComers);
        Sentences.holds("how long serving takes (1 .. 20)", RowEdgesTest::howLongServingTakes);
        Sentences.holds("Nobody turns, nobody gives up, one COUNTER: as it is free it serves of those who came (by the"
            + " minute) the NEXT by a LAW", RowEdgesTest::asItIsFree);
        Sentences.holds("of a COMER came and minute are minutes, wait minute less came, sort how long serving takes, worth"
            + " 0, left 200 less minute, turns 0", RowEdgesTest::namesOfComers);
        Sentences.holds("ORDER and WAITS (from coming to being served). MEAN and UNLIKE as above, of all.",
            RowEdgesTest::unlikeOfAll);
        Sentences.holds("LAW 3 by the mean over who it may be, each as likely, in thousandths (cut each time), of all WAITS"
            + " that follow together.", RowEdgesTest::cutEachTime);
        Sentences.holds("BEST of LAWS 0, 1, 2 and told ones by WAITS together, of like ones by the longest, then the"
            + " least.", RowEdgesTest::bestOfLikeOnes);
    }

    private static void thePromisesOfTheRow() {
        Sentences.holds("A COMER: how many there are; NONE if it can't be, or 8 are.", RowEdgesTest::comers);
        Sentences.holds("The ROW is empty: how many it had.", RowEdgesTest::clearing);
        Sentences.holds("Of the ROW by a LAW (0 .. 2, 4 .. 8): who is served k-th (what 0), the WAIT of COMER k (1); with any"
            + " k: 2 WAITS together, 3 UNLIKE, 4 the longest.", RowEdgesTest::waitsOfTheRow);
        Sentences.holds("NONE for others, without COMERS, or if there is none such.", RowEdgesTest::otherWaits);
        Sentences.holds("The ROW by LOT: WAITS together in thousandths; NONE without COMERS.", RowEdgesTest::lotOfTheRow);
        Sentences.holds("BEST of LAWS for the ROW; NONE without COMERS.", RowEdgesTest::bestOfTheRow);
    }

    private static void theBook() {
        Sentences.holds("A BOOK of at most 20 ENTRIES", RowEdgesTest::twentyEntries);
        Sentences.holds("whom a COUNTER served in which MINUTE, with who else was INSIDE there then; it is written by the"
            + " SHOP (the latest 20).", RowEdgesTest::theLatestTwenty);
        Sentences.holds("OUT OF ORDER by a LAW is an ENTRY, if another one would have been NEXT by it (LAW 3: none is).",
            RowEdgesTest::outOfOrder);
        Sentences.holds("BOOK: how many ENTRIES (k NONE, at most 20); of the k-th (from the earliest on) 0 MINUTE, 1 COUNTER,"
            + " 2 whose number, 3 how many were INSIDE, 4 at which place in the order that one was.",
            RowEdgesTest::factsOfEntries);
        Sentences.holds("that one was. NONE for others, or if there is none such.", RowEdgesTest::otherEntries);
        Sentences.holds("How many ENTRIES of a COUNTER are OUT OF ORDER by a LAW 0 .. 2 (told by places alone)",
            RowEdgesTest::judged);
        Sentences.holds("(told by places alone); NONE if there are none such.", RowEdgesTest::notJudged);
    }

    private static LastServed ofRow(int... numbers) {
        LastServed x = new LastServed();
        for (int k = 0; k < numbers.length; k += 2) {
            Check.due("comer(" + numbers[k] + ", " + numbers[k + 1] + ")", x.comer(numbers[k], numbers[k + 1]), k / 2 + 1);
        }
        return x;
    }

    private static void eightComers() {
        LastServed x = new LastServed();
        for (int many = 1; many <= 8; many++) {
            Check.due("comer " + many, x.comer(0, 2), many);
            Check.due("COMERS", x.count(8), many);
            Check.due("together", x.waits(0, 0, 2), many * (many - 1));
        }
        for (int k = 0; k < 3; k++) {
            Check.due("a 9th", x.comer(0, 2), NONE);
            Check.due("COMERS", x.count(8), 8);
            Check.due("together", x.waits(0, 0, 2), 56);
        }
    }

    private static void minutesOfComers() {
        for (int minute : new int[] {0, 1, 199, 200}) {
            Check.due("comer(" + minute + ", 1)", new LastServed().comer(minute, 1), 1);
        }
        for (int minute : new int[] {-1, -2, 201, 202, Integer.MIN_VALUE, Integer.MAX_VALUE}) {
            LastServed x = new LastServed();
            Check.due("comer(" + minute + ", 1)", x.comer(minute, 1), NONE);
            Check.due("COMERS", x.count(8), 0);
        }
        for (int first : new int[] {0, 1, 100, 199, 200}) {
            for (int second = first - 2; second <= first + 2; second++) {
                LastServed x = ofRow(first, 1);
                boolean can = second >= first && second <= 200;
                Check.due(second + " behind " + first, x.comer(second, 1), can ? 2 : NONE);
                Check.due("COMERS", x.count(8), can ? 2 : 1);
                // behind one that was refused it is still the one ahead that counts
                Check.due(first + " again", x.comer(first, 1), can && second > first ? NONE : can ? 3 : 2);
            }
        }
    }

    private static void howLongServingTakes() {
        for (int takes = -2; takes <= 23; takes++) {
            LastServed x = new LastServed();
            boolean can = takes >= 1 && takes <= 20;
            Check.due("comer(0, " + takes + ")", x.comer(0, takes), can ? 1 : NONE);
            Check.due("COMERS", x.count(8), can ? 1 : 0);
            x.comer(0, 1);
            if (can) {
                Check.due("the next one waits so long", x.waits(0, 1, 1), takes);
            }
        }
        for (int far : FAR) {
            Check.due("comer(0, " + far + ")", new LastServed().comer(0, far), NONE);
        }
    }

    private static void asItIsFree() {
        for (int second = 1; second <= 12; second++) {
            for (int third = second; third <= 12; third++) {
                LastServed x = ofRow(0, 10, second, 3, third, 4);
                // it is free at 10, or begins as the second comes: both are there, if the third came by then
                int start = Math.max(10, second);
                Check.due("LAST with " + second + ", " + third, x.waits(1, 1, 0), third <= start ? 2 : 1);
                Check.due("FIRST with " + second + ", " + third, x.waits(0, 1, 0), 1);
                Check.due("WAIT by FIRST", x.waits(0, 1, 1), start - second);
            }
        }
        // who comes just as it is free is among those who came
        Check.due("at the minute", ofRow(0, 5, 1, 1, 5, 1).waits(1, 1, 0), 2);
        Check.due("a minute later", ofRow(0, 5, 1, 1, 6, 1).waits(1, 1, 0), 1);
        // nobody there: it waits for the next one
        LastServed x = ofRow(0, 1, 50, 20, 200, 1);
        Check.due("nobody waits", x.waits(0, 0, 2), 0);
        // long behind 200 they are all served
        LastServed y = ofRow(200, 20, 200, 20, 200, 20, 200, 20, 200, 20, 200, 20, 200, 20, 200, 20);
        Check.due("the last by FIRST", y.waits(0, 7, 1), 140);
        Check.due("the first by LAST", y.waits(1, 0, 1), 140);
        Check.due("together", y.waits(1, 0, 2), 20 * 28);
        Check.due("by LOT", y.lot(), 560000);
    }

    private static void next(LastServed x, String law, int k, int who) {
        Check.tellLaws(x, "law " + law + ";");
        Check.due(law, x.waits(4, k, 0), who);
    }

    private static void namesOfComers() {
        LastServed x = ofRow(0, 10, 3, 1, 5, 20, 7, 9);
        // second at 10: 1, 2 and 3 are there
        next(x, "most (came = 3)", 1, 1);
        next(x, "most (came = 5)", 1, 2);
        next(x, "most (came = 7) - (came = 8)", 1, 3);
        next(x, "most (minute = 10) * behind", 1, 1);
        next(x, "most (minute = 9) * behind", 1, 3);
        next(x, "most (wait = 7)", 1, 1);
        next(x, "most (wait = 5)", 1, 2);
        next(x, "most (wait = 6)", 1, 3);
        next(x, "most (sort = 1)", 1, 1);
        next(x, "most (sort = 20)", 1, 2);
        next(x, "most (worth = 0) * behind", 1, 1);
        next(x, "most (0 < worth) * behind", 1, 3);
        next(x, "most (turns = 0) * behind", 1, 1);
        next(x, "most (0 < turns) * behind", 1, 3);
        next(x, "most (left = 190) * behind", 1, 1);
        next(x, "most (left = 189) * behind", 1, 3);
        next(x, "most (many = 3) * behind", 1, 1);
        next(x, "most (ahead = 1)", 1, 2);
        next(x, "most (behind = 2)", 1, 1);
        // at 200 left is 0, and behind it it goes on below 0
        LastServed y = ofRow(180, 20, 181, 1, 182, 1, 183, 1);
        next(y, "most (left = 0) * behind", 1, 1);
        next(y, "most (left = 0) * behind", 2, 3);
        next(y, "most (left = 0 - 1) * behind", 2, 1);
        LastServed z = ofRow(0, 1, 0, 1);
        next(z, "most (left = 200) * behind", 0, 0);
        next(z, "most (minute = 0) * behind", 0, 0);
        next(z, "most (wait = 0) * behind", 0, 0);
    }

    private static void unlikeOfAll() {
        Check.due("UNLIKE of one", ofRow(5, 5).waits(0, 0, 3), 0);
        Check.due("longest of one", ofRow(5, 5).waits(0, 0, 4), 0);
        // by LAST it is the first who waits, and all come at once
        Check.due("longest by LAST", ofRow(0, 5, 0, 7).waits(1, 0, 4), 7);
        Check.due("together by LAST", ofRow(0, 5, 0, 7).waits(1, 0, 2), 7);
        Check.due("UNLIKE by LAST", ofRow(0, 5, 0, 7).waits(1, 0, 3), 12);
        // waits 0, 1: 2 * 1 - 1 by 4, cut
        Check.due("cut to 0", ofRow(0, 1, 0, 1).waits(0, 0, 3), 0);
        // waits 0, 2: 2 * 4 - 4 by 4
        Check.due("just 1", ofRow(0, 2, 0, 1).waits(0, 0, 3), 1);
        // waits 0, 3: 2 * 9 - 9 by 4, cut
        Check.due("2 of 9 by 4", ofRow(0, 3, 0, 1).waits(0, 0, 3), 2);
        // waits 0, 20, 40 .. 140
        LastServed all = ofRow(0, 20, 0, 20, 0, 20, 0, 20, 0, 20, 0, 20, 0, 20, 0, 20);
        Check.due("of eight", all.waits(0, 0, 3), (8 * 400 * 140 - 560 * 560) / 64);
        Check.due("longest of eight", all.waits(0, 0, 4), 140);
        Check.due("ORDER by LAST", all.waits(1, 0, 0), 7);
        Check.due("ORDER by MIDDLE", all.waits(2, 0, 0), 4);
    }

    private static void cutEachTime() {
        Check.due("one", ofRow(0, 20).lot(), 0);
        Check.due("two", ofRow(0, 1, 0, 2).lot(), 1500);
        // behind 0: 2 + mean(1, 2); behind 1: 2 + mean(1, 2) each 3.5, behind 2: 4 + 1; a third of 12
        Check.due("three", ofRow(0, 1, 0, 1, 0, 2).lot(), 4000);
        // behind 0: 2 + mean(1, 3) = 4, behind 1 alike, behind 2: 6 + 1; a third of 15
        Check.due("three", ofRow(0, 1, 0, 1, 0, 3).lot(), 5000);
        Check.due("three alike behind one", ofRow(0, 1, 1, 1, 1, 1, 1, 1).lot(), 3000);
        // four: of each of them three times, and then the mean of the three others, which is cut before
        int cuts = 0;
        for (int last = 1; last <= 20; last++) {
            long sum = 3000L * (1 + 1 + 2 + last) + 2 * meanOf(1, 2, last) + meanOf(1, 1, last) + meanOf(1, 1, 2);
            Check.due("four, the last with " + last, ofRow(0, 1, 0, 1, 0, 2, 0, last).lot(), sum / 4);
            cuts += sum % 4 == 0 ? 0 : 1;
        }
        // five: the means of four are thirds and fourths that were cut
        for (int last = 1; last <= 20; last++) {
            int[] takes = {1, 2, 4, 7, last};
            long sum = 0;
            for (int k = 0; k < 5; k++) {
                sum += 4000L * takes[k] + meanWithout(takes, 1 << k);
            }
            Check.due("five, the last with " + last, ofRow(0, 1, 0, 2, 0, 4, 0, 7, 0, last).lot(), sum / 5);
            cuts += sum % 5 == 0 ? 0 : 1;
        }
        // who comes as another one is served makes thirds of them
        for (int takes = 1; takes <= 20; takes++) {
            LastServed x = ofRow(0, takes, 0, 1, 1, 2, 1, 5, 2, 3);
            long mean = mean(new int[] {0, 0, 1, 1, 2}, new int[] {takes, 1, 2, 5, 3}, 0, 0);
            Check.due("five who come one by one, the first with " + takes, x.lot(), mean);
            cuts += mean % 100 == 0 ? 0 : 1;
        }
        Check.due("something was cut", cuts > 0, true);
    }

    private static long meanWithout(int[] takes, int gone) {
        return mean(new int[takes.length], takes, gone, 0);
    }

    /** The document's words: who is served now waits, and then what follows; the mean of these, cut. */
    private static long mean(int[] came, int[] takes, int gone, int free) {
        int minute = Integer.MAX_VALUE;
        for (int k = 0; k < came.length; k++) {
            minute = (gone >> k & 1) == 0 ? Math.min(minute, Math.max(free, came[k])) : minute;
        }
        long sum = 0;
        int many = 0;
        for (int k = 0; k < came.length; k++) {
            if ((gone >> k & 1) == 0 && came[k] <= minute) {
                sum += 1000L * (minute - came[k]) + mean(came, takes, gone | 1 << k, minute + takes[k]);
                many++;
            }
        }
        return many == 0 ? 0 : sum / many;
    }

    /** Of three who are there already: what they wait for each other, in thousandths and cut each time. */
    private static long meanOf(int a, int b, int c) {
        return (2000L * a + meanOf(b, c) + 2000L * b + meanOf(a, c) + 2000L * c + meanOf(a, b)) / 3;
    }

    private static long meanOf(int a, int b) {
        return (1000L * a + 1000L * b) / 2;
    }

    private static void bestOfLikeOnes() {
        Check.due("all alike: the least", ofRow(0, 1).best(), 0);
        // all of the same length: together alike, FIRST has the shortest longest
        Check.due("by the longest", ofRow(0, 5, 1, 5, 2, 5, 3, 5).best(), 0);
        // FIRST waits 0, 4, 12; LAST and MIDDLE 0, 5, 3: the least of these two
        Check.due("LAST like MIDDLE", ofRow(0, 5, 1, 9, 2, 1).best(), 1);
        LastServed x = ofRow(0, 5, 1, 9, 2, 1);
        Check.tellLaws(x, "law most ahead; law least sort;");
        Check.due("a told one like it comes behind", x.best(), 1);
        // MIDDLE alone is best: at 9 the one in the middle is the shortest
        Check.due("MIDDLE", ofRow(0, 9, 1, 9, 2, 1, 3, 9).best(), 2);
        LastServed y = ofRow(0, 9, 1, 2, 2, 9, 3, 1, 4, 9);
        Check.tellLaws(y, "law most sort; law most sort; law most sort; law most sort; law least sort;");
        Check.due("the 5th told one", y.best(), 8);
        Check.tellLaws(y, "law least sort; law most sort; law least sort;");
        Check.due("of like ones the least of the told", y.best(), 4);
        Check.tellLaws(y, "law most sort;");
        Check.due("a LAW that isn't told any more isn't taken", y.best() < 3, true);
        // FIRST waits 4 and 6, LAST 7 and 3: alike together
        LastServed z = ofRow(0, 5, 1, 3, 2, 3);
        Check.tellLaws(z, "law least came;");
        Check.due("FIRST ahead of a told one like it", z.best(), 0);
        longestCountsForToldOnes();
        togetherCountsFirst();
    }

    private static void togetherCountsFirst() {
        // FIRST waits 9, 4, 6, 8; LAST 15, 5, 3, 1; MIDDLE is like LAST: together counts, not the longest
        LastServed x = ofRow(0, 10, 1, 3, 9, 2, 9, 2, 9, 2);
        Check.tellLaws(x, "law least came;");
        int[][] due = {{27, 9}, {24, 15}, {24, 15}, null, {27, 9}};
        for (int law = 0; law <= 4; law++) {
            if (law != 3) {
                Check.due("together by " + law, x.waits(law, 0, 2), due[law][0]);
                Check.due("longest by " + law, x.waits(law, 0, 4), due[law][1]);
            }
        }
        Check.due("LAST, though it has the longest", x.best(), 1);
        // the shortest first: of the two short ones the last (11 and 1) or the first (9 and 3), and then the long one (6)
        LastServed y = ofRow(0, 10, 1, 2, 8, 9, 9, 2);
        Check.tellLaws(y, "law least sort; law least sort * 1000 + came; law least sort * 1000 + came;");
        Check.due("together by 4", y.waits(4, 0, 2), 18);
        Check.due("together by 5", y.waits(5, 0, 2), 18);
        Check.due("longest by 4", y.waits(4, 0, 4), 11);
        Check.due("longest by 5", y.waits(5, 0, 4), 9);
        Check.due("of like ones by the longest, then the least", y.best(), 5);
    }

    private static void longestCountsForToldOnes() {
        // FIRST isn't best together; of LAST, MIDDLE and the told one, all alike together, the longest counts
        LastServed x = ofRow(0, 4, 1, 9, 2, 1, 3, 1);
        Check.due("LAST together", x.waits(1, 0, 2), x.waits(2, 0, 2));
        Check.due("LAST longest", x.waits(1, 0, 4), x.waits(2, 0, 4));
        Check.tellLaws(x, "law least sort * 100 + came;");
        Check.due("told together", x.waits(4, 0, 2), x.waits(1, 0, 2));
        Check.due("LAST, as the longest is alike, too", x.best(), 1);
        LastServed y = ofRow(0, 4, 1, 2, 2, 2, 3, 9);
        Check.tellLaws(y, "law least (sort = 9) * 100 - came; law least (sort = 9) * 100 + came;");
        Check.due("FIRST is like the second told one", y.waits(0, 0, 2), y.waits(5, 0, 2));
        Check.due("the first told one has the same together", y.waits(4, 0, 2), y.waits(0, 0, 2));
        Check.due("FIRST", y.best(), 0);
        // with a long one ahead FIRST is worse, and of the two told ones the second has the shorter longest
        LastServed z = ofRow(0, 4, 1, 20, 2, 2, 3, 2, 3, 2);
        Check.tellLaws(z, "law least (sort = 20) * 200 + (sort = 2) * (100 - ahead); law least (sort = 20) * 200 + ahead;");
        Check.due("together alike", z.waits(4, 0, 2), z.waits(5, 0, 2));
        Check.due("best", z.best(), bestByHand(z, 2));
    }

    private static int bestByHand(LastServed x, int told) {
        int best = 0;
        for (int law = 1; law < 4 + told; law++) {
            if (law == 3) {
                continue;
            }
            int sum = x.waits(law, 0, 2) - x.waits(best, 0, 2);
            int longest = x.waits(law, 0, 4) - x.waits(best, 0, 4);
            best = sum < 0 || sum == 0 && longest < 0 ? law : best;
        }
        return best;
    }

    private static void comers() {
        LastServed x = new LastServed();
        int[][] refused = {{-1, 1}, {201, 1}, {0, 0}, {0, 21}, {-1, 0}};
        for (int many = 1; many <= 8; many++) {
            for (int[] wrong : refused) {
                Check.due("comer that can't be", x.comer(wrong[0], wrong[1]), NONE);
            }
            Check.due("COMERS", x.count(8), many - 1);
            Check.due("comer " + many, x.comer(20 * many, 20), many);
            Check.due("one too soon", x.comer(20 * many - 1, 20), NONE);
        }
        Check.due("with 8", x.comer(200, 20), NONE);
        Check.due("COMERS", x.count(8), 8);
        Check.due("it needs no TOWN", x.count(0), 0);
    }

    private static void clearing() {
        LastServed x = new LastServed();
        Check.due("clear() of nothing", x.clear(), 0);
        for (int many = 1; many <= 8; many++) {
            for (int k = 0; k < many; k++) {
                x.comer(200, 20);
            }
            Check.due("clear() of " + many, x.clear(), many);
            Check.due("COMERS", x.count(8), 0);
            Check.due("clear() once more", x.clear(), 0);
            Check.due("waits", x.waits(0, 0, 0), NONE);
            Check.due("lot", x.lot(), NONE);
            Check.due("best", x.best(), NONE);
        }
        Check.due("an earlier minute", x.comer(0, 1), 1);
        // nothing of the row ahead is left in what is told of the next one
        LastServed y = ofRow(0, 20, 0, 20, 0, 20, 0, 20, 0, 20, 0, 20, 0, 20, 0, 20);
        for (int law = 0; law <= 2; law++) {
            Check.due("together", y.waits(law, 0, 2), 560);
        }
        Check.due("by LOT", y.lot(), 560000);
        Check.due("clear() of 8", y.clear(), 8);
        for (int many = 1; many <= 3; many++) {
            y.comer(7, 2);
            for (int law = 0; law <= 2; law++) {
                Check.due("together of " + many, y.waits(law, 0, 2), many * (many - 1));
                Check.due("longest of " + many, y.waits(law, 0, 4), 2 * many - 2);
                Check.due("UNLIKE of " + many, y.waits(law, 0, 3), many == 3 ? 2 : many - 1);
            }
            Check.due("by LOT of " + many, y.lot(), 1000 * many * (many - 1));
        }
    }

    private static void waitsOfTheRow() {
        LastServed x = ofRow(0, 4, 1, 3, 2, 2, 3, 1);
        Check.tellLaws(x, "law least sort; law most (ahead = 1);");
        int[][] orders = {{0, 1, 2, 3}, {0, 3, 2, 1}, {0, 2, 3, 1}, null, {0, 3, 2, 1}, {0, 2, 3, 1}, {0, 3, 2, 1},
            {0, 3, 2, 1}, {0, 3, 2, 1}};
        int[] takes = {4, 3, 2, 1};
        for (int law = 0; law <= 8; law++) {
            if (law == 3) {
                continue;
            }
            int minute = 0;
            int sum = 0;
            int squares = 0;
            int longest = 0;
            for (int k = 0; k < 4; k++) {
                int who = orders[law][k];
                int wait = minute - who;
                Check.due("served " + k + " by " + law, x.waits(law, k, 0), who);
                Check.due("WAIT of " + who + " by " + law, x.waits(law, who, 1), wait);
                minute += takes[who];
                sum += wait;
                squares += wait * wait;
                longest = Math.max(longest, wait);
            }
            for (int k : new int[] {0, 3, 4, -1, 8, Integer.MAX_VALUE, Integer.MIN_VALUE}) {
                Check.due("together by " + law, x.waits(law, k, 2), sum);
                Check.due("UNLIKE by " + law, x.waits(law, k, 3), (4 * squares - sum * sum) / 16);
                Check.due("longest by " + law, x.waits(law, k, 4), longest);
            }
        }
    }

    private static void otherWaits() {
        for (int many = 0; many <= 8; many++) {
            LastServed x = new LastServed();
            for (int k = 0; k < many; k++) {
                x.comer(k, 1);
            }
            for (int k = -1; k <= 9; k++) {
                for (int what = 0; what <= 1; what++) {
                    boolean is = k >= 0 && k < many;
                    Check.due("waits(0, " + k + ", " + what + ") of " + many, x.waits(0, k, what) != NONE, is);
                }
            }
            for (int what = 2; what <= 4; what++) {
                Check.due("waits(0, 99, " + what + ") of " + many, x.waits(0, 99, what) != NONE, many > 0);
            }
        }
        LastServed x = ofRow(0, 1, 0, 1);
        for (int law = -2; law <= 11; law++) {
            boolean is = law >= 0 && law <= 8 && law != 3;
            for (int what = -1; what <= 6; what++) {
                Check.due("waits(" + law + ", 0, " + what + ")", x.waits(law, 0, what) != NONE,
                    is && what >= 0 && what <= 4);
            }
        }
        for (int far : FAR) {
            Check.due("law " + far, x.waits(far, 0, 2), NONE);
            Check.due("k " + far, x.waits(0, far, 0), NONE);
            Check.due("k " + far, x.waits(0, far, 1), NONE);
            Check.due("what " + far, x.waits(0, 0, far), NONE);
        }
    }

    private static void lotOfTheRow() {
        LastServed x = new LastServed();
        Check.due("without COMERS", x.lot(), NONE);
        x.comer(200, 20);
        Check.due("with one", x.lot(), 0);
        x.comer(200, 20);
        Check.due("with two", x.lot(), 20000);
        Check.due("once more", x.lot(), 20000);
        x.clear();
        Check.due("without COMERS again", x.lot(), NONE);
        // it takes no lots from the shop
        LastServed y = Check.withTown("counter 0 1 0; sort a 8 1 240 0 0 0;");
        y.comer(0, 1);
        y.comer(0, 1);
        Lots lots = new Lots(0);
        int came = 0;
        for (int k = 0; k < 20; k++) {
            y.lot();
            y.go(1);
            came += lots.below(16) < 8 ? 1 : 0;
        }
        Check.due("CAME", y.sort(0, 10), came);
    }

    private static void bestOfTheRow() {
        LastServed x = new LastServed();
        Check.due("without COMERS", x.best(), NONE);
        Check.tellLaws(x, "law least sort;");
        Check.due("without COMERS, with LAWS", x.best(), NONE);
        x.comer(0, 20);
        Check.due("with one", x.best(), 0);
        x.comer(0, 1);
        // FIRST 20; LAST 1
        Check.due("with two", x.best(), 1);
        x.clear();
        Check.due("without COMERS again", x.best(), NONE);
    }

    /** So many are served, one a minute; person numbers are those of a crowd that came at once. */
    private static LastServed servedOf(int many) {
        LastServed x = Check.withTown("counter 0 1 99; counter 0 1 0; sort a 0 1 240 0 0 0;");
        for (int k = 0; k < 30; k++) {
            x.come(0, 0);
        }
        if (many > 0) {
            x.go(many);
        }
        return x;
    }

    private static void twentyEntries() {
        for (int many = 0; many <= 30; many++) {
            LastServed x = servedOf(many);
            int entries = Math.min(many, 20);
            Check.due("ENTRIES of " + many, x.book(NONE, 0), entries);
            if (many > 0) {
                Check.due("the last ENTRY", x.book(entries - 1, 2), many - 1);
            }
            Check.due("none behind it", x.book(entries, 0), NONE);
        }
    }

    private static void theLatestTwenty() {
        for (int many = 19; many <= 30; many++) {
            LastServed x = servedOf(many);
            int first = Math.max(0, many - 20);
            for (int k = 0; k < Math.min(20, many); k++) {
                Check.due("MINUTE of " + k + " of " + many, x.book(k, 0), first + k);
                Check.due("number of " + k + " of " + many, x.book(k, 2), first + k);
                Check.due("INSIDE then", x.book(k, 3), 30 - first - k);
            }
        }
        // more counters in one minute: by their numbers
        LastServed y = Check.withTown("counter 0 1 9; counter 1 1 9; counter 2 1 9; sort a 0 1 240 0 0 0;");
        for (int k = 0; k < 30; k++) {
            y.come(0, k % 3);
        }
        y.go(8);
        Check.due("ENTRIES", y.book(NONE, 0), 20);
        for (int k = 0; k < 20; k++) {
            Check.due("COUNTER of " + k, y.book(k, 1), (k + 4) % 3);
            Check.due("MINUTE of " + k, y.book(k, 0), (k + 4) / 3);
        }
        // who gives UP isn't written
        LastServed z = Check.withTown("counter 0 1 0; sort a 0 1 2 0 0 0;");
        z.come(0, 0);
        z.come(0, 0);
        z.leave(0);
        z.go(5);
        Check.due("ENTRIES", z.book(NONE, 0), 0);
    }

    private static void outOfOrder() {
        for (int law = 0; law <= 2; law++) {
            LastServed x = Check.withTown("counter " + law + " 1 99; sort a 0 1 240 0 0 0;");
            for (int k = 0; k < 20; k++) {
                x.come(0, 0);
            }
            for (int served = 1; served <= 20; served++) {
                x.go(1);
                for (int by = 0; by <= 2; by++) {
                    int wrong = 0;
                    for (int k = 0; k < served; k++) {
                        wrong += placeOf(law, 20 - k) != placeOf(by, 20 - k) ? 1 : 0;
                    }
                    Check.due("LAW " + law + " by " + by + " of " + served, x.judge(0, by), wrong);
                }
            }
        }
        // one alone is NEXT by every LAW
        LastServed one = Check.withTown("counter 3 1 99; sort a 0 1 240 0 0 0;");
        one.come(0, 0);
        one.go(1);
        for (int law = 0; law <= 2; law++) {
            Check.due("one alone by " + law, one.judge(0, law), 0);
        }
        Check.due("LAW 3 isn't judged", one.judge(0, 3), NONE);
    }

    private static int placeOf(int law, int n) {
        return law == 0 ? 0 : law == 1 ? n - 1 : n / 2;
    }

    private static void factsOfEntries() {
        LastServed x = Check.withTown("counter 1 9 99; counter 2 9 99; sort a 0 1 240 0 0 0; close 240;");
        x.go(238);
        for (int k = 0; k < 15; k++) {
            x.come(0, 0);
            x.come(0, 1);
        }
        x.go(1);
        int[][] due = {{238, 0, 28, 15, 14}, {238, 1, 15, 15, 7}};
        for (int k = 0; k < 2; k++) {
            for (int what = 0; what < 5; what++) {
                Check.due("book(" + k + ", " + what + ")", x.book(k, what), due[k][what]);
            }
        }
        x.go(1);
        Check.due("ENTRIES behind T", x.book(NONE, 0), 2);
        LastServed y = Check.withTown("counter 1 1 99; sort a 0 1 240 0 0 0;");
        for (int k = 0; k < 30; k++) {
            y.come(0, 0);
        }
        y.go(1);
        int[] full = {0, 0, 29, 30, 29};
        for (int what = 0; what < 5; what++) {
            Check.due("of thirty, " + what, y.book(0, what), full[what]);
        }
        Check.due("ENTRIES without a TOWN", new LastServed().book(NONE, 0), 0);
    }

    private static void otherEntries() {
        for (int many : new int[] {0, 1, 19, 20, 25}) {
            LastServed x = servedOf(many);
            int entries = Math.min(many, 20);
            for (int k = -3; k <= 22; k++) {
                for (int what = -1; what <= 6 && k != NONE; what++) {
                    boolean is = k >= 0 && k < entries && what >= 0 && what <= 4;
                    Check.due("book(" + k + ", " + what + ") of " + many, x.book(k, what) != NONE, is);
                }
            }
            for (int far : FAR) {
                Check.due("book(" + far + ", 0)", x.book(far, 0), NONE);
                Check.due("book(0, " + far + ")", x.book(0, far), NONE);
            }
        }
        Check.due("without a TOWN", new LastServed().book(0, 0), NONE);
    }

    private static void judged() {
        // only the latest 20 are judged
        LastServed x = servedOf(30);
        Check.due("by FIRST", x.judge(0, 0), 0);
        Check.due("by LAST: one alone was LAST, too", x.judge(0, 1), 19);
        Check.due("by MIDDLE", x.judge(0, 2), 19);
        Check.due("the other counter has none", x.judge(1, 0), 0);
        // each counter by itself
        LastServed y = Check.withTown("counter 0 1 99; counter 1 1 99; sort a 0 1 240 0 0 0;");
        for (int k = 0; k < 6; k++) {
            y.come(0, k % 2);
        }
        y.go(3);
        Check.due("FIRST by FIRST", y.judge(0, 0), 0);
        Check.due("FIRST by LAST", y.judge(0, 1), 2);
        Check.due("LAST by FIRST", y.judge(1, 0), 2);
        Check.due("LAST by LAST", y.judge(1, 1), 0);
        // a told LAW is judged by places alone
        LastServed z = Check.withTown("counter 4 1 99; sort a 0 1 240 0 0 0;");
        Check.tellLaws(z, "law most (ahead = 1);");
        for (int k = 0; k < 4; k++) {
            z.come(0, 0);
        }
        z.go(4);
        // places 1 of 4, 1 of 3, 1 of 2, 0 of 1
        Check.due("told by FIRST", z.judge(0, 0), 3);
        Check.due("told by LAST", z.judge(0, 1), 2);
        Check.due("told by MIDDLE", z.judge(0, 2), 1);
    }

    private static void notJudged() {
        LastServed x = servedOf(5);
        for (int counter = -2; counter <= 4; counter++) {
            for (int law = -2; law <= 9; law++) {
                boolean is = counter >= 0 && counter <= 1 && law >= 0 && law <= 2;
                Check.due("judge(" + counter + ", " + law + ")", x.judge(counter, law) != NONE, is);
            }
        }
        for (int far : FAR) {
            Check.due("judge(" + far + ", 0)", x.judge(far, 0), NONE);
            Check.due("judge(0, " + far + ")", x.judge(0, far), NONE);
        }
        Check.due("without a TOWN", new LastServed().judge(0, 0), NONE);
    }
}
