/** Terms 2 and promise 14: each sentence that names an edge of the laws' text, of what it works out, or of who is next. */
public final class LawEdgesTest {
    private static final int NONE = LastServed.NONE;
    private static final String MILLION = "1000 * 1000";

    public static void main(String[] args) {
        theText();
        theNames();
        theLaws();
        Sentences.holds("Who would be NEXT at a COUNTER by a LAW (0 .. 2, 4 .. 8)", LawEdgesTest::nextByEachLaw);
        Sentences.holds("NONE if nobody, for others, or if there is no such COUNTER.", LawEdgesTest::nextOfNobody);
        Check.close("LawEdgesTest");
    }

    private static void theText() {
        Sentences.holds("LAWS are a text likewise:", LawEdgesTest::aTextLikewise);
        Sentences.holds("one or more LINES (at most 5, numbers as they come)", LawEdgesTest::oneToFiveLines);
        Sentences.holds("law least E ;   or   law most E ;", LawEdgesTest::leastOrMost);
        Sentences.holds("E: T, any number of + T or - T.", LawEdgesTest::anyNumberOfTerms);
        Sentences.holds("T: F, any number of * F.", LawEdgesTest::anyNumberOfFactors);
        Sentences.holds("a number 0 .. 9999", LawEdgesTest::numbersOfLaws);
        Sentences.holds("F: a number 0 .. 9999, a name, ( E ), or ( E < E ), ( E = E ), 1 if so, else 0",
            LawEdgesTest::comparisons);
        Sentences.holds("brackets are open one in another 8 deep at most", LawEdgesTest::eightDeep);
        Sentences.holds("Each sum, difference and product is brought to -1000000 .. 1000000.", LawEdgesTest::bounds);
        Sentences.holds("FAULTS as above (a 6th LINE at law; the length, if it ends too early, or there is no LINE).",
            LawEdgesTest::faultsOfLaws);
    }

    private static void theNames() {
        Sentences.holds("came (the MINUTE in which one came in last)", LawEdgesTest::came);
        Sentences.holds("wait (MINUTES since one came at first)", LawEdgesTest::waited);
        Sentences.holds("sort, worth (W)", LawEdgesTest::sortAndWorth);
        Sentences.holds("ahead, behind (how many of those at that COUNTER came in ahead of one, behind one),"
            + " many (how many are there)", LawEdgesTest::aheadBehindMany);
        Sentences.holds("minute, left (T less MINUTE)", LawEdgesTest::minuteAndLeft);
        Sentences.holds("turns (how often one went out and in)", LawEdgesTest::turns);
    }

    private static void theLaws() {
        Sentences.holds("LAW 0 FIRST: who came in first; 1 LAST: who came in last", LawEdgesTest::firstAndLast);
        Sentences.holds("2 MIDDLE: of n in the order in which they came in (from 0 on) the one at n by 2 (cut)",
            LawEdgesTest::middle);
        Sentences.holds("3 LOT: a lot below n in that order", LawEdgesTest::lotBelowN);
        Sentences.holds("4 and k: told LAW k: with the least (most) E, of like ones who came in last",
            LawEdgesTest::toldLaws);
        Sentences.holds("if there is no such LAW, as LAST.", LawEdgesTest::noSuchLaw);
    }

    private static void laws(String text, int fault) {
        LastServed x = new LastServed();
        Check.text(x, text);
        Check.due("fault(1) of '" + text + "'", x.fault(1), fault);
        Check.due("laws of '" + text + "'", x.laws() != NONE, fault == NONE);
        Check.due("laws behind '" + text + "'", x.count(6) > 0, fault == NONE);
        Check.due("bytes behind '" + text + "'", x.count(9), fault == NONE ? 0 : text.length());
    }

    /** So many at one counter who are never served, each a minute behind the one ahead; person k is at place k. */
    private static LastServed withPeople(int many) {
        LastServed x = Check.withTown("counter 0 1 0; counter 0 1 0; sort a 0 30 240 0 0 0; close 240;");
        for (int k = 0; k < many; k++) {
            x.come(0, 0);
            x.go(1);
        }
        return x;
    }

    private static void next(LastServed x, String law, int who) {
        Check.tellLaws(x, "law " + law + ";");
        Check.due(law, x.next(0, 4), who);
    }

    /** Of two the first one is next, if both are alike as numbers; if not, the second one. */
    private static void like(String one, String other, boolean alike) {
        next(withPeople(2), "most (" + one + " = " + other + ") * behind", alike ? 0 : 1);
    }

    private static void aTextLikewise() {
        String law = "law least ahead;";
        for (int bytes = 497; bytes <= 500; bytes++) {
            String text = " ".repeat(bytes - law.length()) + law;
            laws(text, NONE);
            laws(text.substring(0, bytes - 1) + "?", bytes - 1);
            LastServed x = withPeople(3);
            Check.text(x, text);
            Check.due("no more comes", x.feed(0, 0, 0, 0, 0), NONE);
            Check.due("laws() of " + bytes, x.laws(), 1);
            Check.due("least ahead", x.next(0, 4), 0);
            Check.due("the text is empty", x.count(9), 0);
        }
        // the same text may be fed for one and for the other
        LastServed x = new LastServed();
        Check.text(x, law);
        Check.due("as a TOWN", x.fault(0), 0);
        Check.due("as LAWS", x.fault(1), NONE);
        Check.due("town()", x.town(), NONE);
        Check.due("bytes", x.count(9), law.length());
        Check.due("laws()", x.laws(), 1);
        Check.due("no TOWN", x.count(0), 0);
    }

    private static void oneToFiveLines() {
        String[] lines = {"law most ahead;", "law least ahead;", "law most (ahead = 1);", "law most (ahead = 2);",
            "law least (ahead < 3);"};
        int[] who = {4, 0, 1, 2, 4};
        StringBuilder text = new StringBuilder();
        laws("", 0);
        for (int many = 1; many <= 5; many++) {
            text.append(lines[many - 1]);
            laws(text.toString(), NONE);
            LastServed x = withPeople(5);
            Check.text(x, text.toString());
            Check.due("laws()", x.laws(), many);
            Check.due("LAWS", x.count(6), many);
            for (int k = 0; k < 5; k++) {
                Check.due("LAW " + (4 + k) + " of " + many, x.next(0, 4 + k), k < many ? who[k] : 4);
            }
        }
        laws(text + lines[0], text.length());
        laws(text + "law", text.length());
    }

    private static void leastOrMost() {
        LastServed x = withPeople(3);
        next(x, "least ahead", 0);
        next(x, "most ahead", 2);
        laws("law 1;", 4);
        laws("law lest 1;", 4);
        laws("law mosts 1;", 4);
        laws("law least most 1;", 10);
        laws("least 1;", 0);
        laws("law least;", 9);
        laws("law least 1", 11);
        laws("law least 1;1;", 12);
    }

    private static String repeated(String text, String between, int many) {
        return text + (between + text).repeat(many - 1);
    }

    private static void anyNumberOfTerms() {
        for (int many : new int[] {1, 2, 3, 100, 200, 220}) {
            like(repeated("1", "+", many), "" + many, true);
            like(repeated("1", "+", many), "" + (many + 1), false);
            like("9999 - " + repeated("1", "-", many), "" + (9999 - many), true);
        }
        like("7 - 2 + 3 - 4 - 1 + 6", "9", true);
        like("7 - 2 * 3 + 4 * 5 * 2 - 1", "40", true);
        // a text of 500 bytes of nothing but terms
        String full = "law most " + repeated("1", "+", 245) + ";";
        laws(full + " ".repeat(500 - full.length()), NONE);
        laws("law most 1+", 11);
        laws("law most +1;", 9);
        laws("law most 1+;", 11);
        laws("law most 1-;", 11);
        laws("law most 1+-1;", 11);
        laws("law most 1 1;", 11);
    }

    private static void anyNumberOfFactors() {
        for (int many : new int[] {1, 2, 3, 100, 200, 220}) {
            like(repeated("1", "*", many) + "*7", "7", true);
            like(repeated("1", "*", many) + "*0", "0", true);
        }
        like(repeated("2", "*", 13), "8192", true);
        like("2 * 3 * 4 * 5", "120", true);
        like("3 * (2 + 1) * 2", "18", true);
        laws("law most 1*", 11);
        laws("law most *1;", 9);
        laws("law most 1*;", 11);
        laws("law most 1**1;", 11);
        laws("law most 1*+1;", 11);
    }

    private static void numbersOfLaws() {
        for (int number : new int[] {0, 1, 9, 10, 99, 999, 1000, 9998, 9999}) {
            laws("law most " + number + ";", NONE);
            like("" + number, number == 0 ? "1 - 1" : number - 1 + " + 1", true);
            like("" + number, number == 9999 ? "9998" : "" + (number + 1), false);
        }
        for (String number : new String[] {"10000", "10001", "65536", "99999", "100000", "100001", "2147483648",
            "4294967296", "4294967297", "18446744073709551616", "9".repeat(60)}) {
            laws("law most " + number + ";", 9);
            laws("law most 1 + (came < " + number + ");", 21);
        }
        laws("law most - 1;", 9);
    }

    private static void comparisons() {
        String[][] pairs = {{"3", "4"}, {"4", "4"}, {"5", "4"}, {"0", "0"}, {"0 - 1", "0"}, {"0", "0 - 1"}};
        for (String[] pair : pairs) {
            int left = pair[0].equals("0 - 1") ? -1 : Integer.parseInt(pair[0]);
            int right = pair[1].equals("0 - 1") ? -1 : Integer.parseInt(pair[1]);
            like("(" + pair[0] + " < " + pair[1] + ")", left < right ? "1" : "0", true);
            like("(" + pair[0] + " = " + pair[1] + ")", left == right ? "1" : "0", true);
            like("7 + (" + pair[0] + " < " + pair[1] + ") * 2", left < right ? "9" : "7", true);
        }
        like("(9)", "9", true);
        like("((9))", "9", true);
        like("(1 < 2) + (2 < 1) + (3 = 3)", "2", true);
        laws("law most 1 < 2;", 11);
        laws("law most 1 = 2;", 11);
        laws("law most (1 < 2 < 3);", 16);
        laws("law most (1 = 2 = 3);", 16);
        laws("law most (1 < 2 = 3);", 16);
        laws("law most ();", 10);
        laws("law most (< 2);", 10);
        laws("law most (1 <);", 13);
        laws("law most (1 < 2;", 15);
        laws("law most (1;", 11);
        laws("law most 1);", 10);
        laws("law most (1));", 12);
    }

    private static void eightDeep() {
        for (int deep = 0; deep <= 12; deep++) {
            String text = "law most " + "(".repeat(deep) + "1" + ")".repeat(deep) + ";";
            laws(text, deep <= 8 ? NONE : 17);
            String right = "law most " + "(1 < ".repeat(deep) + "2" + ")".repeat(deep) + ";";
            laws(right, deep <= 8 ? NONE : 9 + 8 * 5);
            String left = "law most " + "(".repeat(deep) + "2" + " = 1)".repeat(deep) + ";";
            laws(left, deep <= 8 ? NONE : 17);
            String summed = "law most " + "1 + 2 * (".repeat(deep) + "2" + ")".repeat(deep) + ";";
            laws(summed, deep <= 8 ? NONE : 9 + 8 * 9 + 8);
        }
        String eight = "((((((((1))))))))";
        laws("law most " + eight + ";", NONE);
        laws("law most " + repeated(eight, "+", 20) + ";", NONE);
        laws("law most " + repeated(eight, "*", 20) + ";", NONE);
        laws("law most " + eight + "; law least " + eight + ";", NONE);
        laws("law most (" + eight + ");", 17);
        laws("law most (1 < " + eight + ");", 21);
        // one is closed again, so that there is room for one, not for two
        laws("law most ((((((((1)*(2))))))));", NONE);
        laws("law most ((((((((1)*((2)))))))));", 21);
        laws("law most ((((((((1)))))))*((2)));", NONE);
        // what stands in the deepest ones is worked out
        like("1+(1+(1+(1+(1+(1+(1+(1+1)))))))", "9", true);
    }

    private static void bounds() {
        String less = "0 - " + MILLION;
        // products
        like("999 * 1001", MILLION + " - 1", true);
        like("999 * 1001", MILLION, false);
        like(MILLION, MILLION + " - 1", false);
        like("1000 * 1001", MILLION, true);
        like("9999 * 9999", MILLION, true);
        like("9999 * 9999 * 9999 * 9999", MILLION, true);
        like("(0 - 999) * 1001", less + " + 1", true);
        like("(0 - 1000) * 1000", less, true);
        like("(0 - 1000) * 1000", less + " + 1", false);
        like("(0 - 1000) * 1001", less, true);
        like("(" + less + ") * (" + less + ")", MILLION, true);
        like("(" + less + ") * " + MILLION, less, true);
        like("9999 * 9999 * 0", "0", true);
        // sums
        like("999 * 1001 + 1", MILLION, true);
        like("999 * 1001 + 1", "999 * 1001", false);
        like("999 * 1001 + 2", MILLION, true);
        like("999 * 1001 + 2 - 2", MILLION + " - 2", true);
        like(MILLION + " + " + MILLION, MILLION, true);
        like(MILLION + " + " + MILLION + " - " + MILLION, "0", true);
        like("(0 - 999) * 1001 + (0 - 2)", less, true);
        like("(" + less + ") + (" + less + ") + " + MILLION, "0", true);
        // differences
        like(less + " - 1", less, true);
        like(less + " - 1 + 1", less + " + 1", true);
        like(less + " + 1 - 1", less, true);
        like(less + " + 1", less, false);
        like(less + " - " + MILLION, less, true);
        like(MILLION + " - (0 - 1)", MILLION, true);
        like(MILLION + " - (0 - 1) - 1", MILLION + " - 1", true);
    }

    private static void faultsOfLaws() {
        String five = "law most 1;".repeat(5);
        laws(five, NONE);
        laws(five + "law most 1;", 55);
        laws(five + "  law", 57);
        laws(five + "  lw", 57);
        laws(" ".repeat(497) + "law", 500);
        laws(" ".repeat(491) + "law least", 500);
        laws(" ".repeat(492) + "law most", 500);
        laws("law most 1" + " ".repeat(485) + "+wait", 500);
        laws("", 0);
        laws("  \n", 3);
        String text = "law most ( came < 1 ) * 2 + wait ;";
        for (int length = 0; length < text.length(); length++) {
            if (length == 0 || text.charAt(length) == ' ' || text.charAt(length - 1) == ' ') {
                laws(text.substring(0, length), length);
            }
        }
        laws("law most came; law", 18);
        laws("law most came; law most", 23);
        laws("law most cam", 9);
        laws("law mos", 4);
        laws("law most name;", 9);
        laws("law most counter;", 9);
        laws("law most ?;", 9);
        laws("law most 1 + ?;", 13);
        for (String name : new String[] {"came", "wait", "sort", "worth", "ahead", "behind", "many", "minute", "left",
            "turns"}) {
            laws("law most " + name + ";", NONE);
            laws("law most " + name + "s;", 9);
            laws("law most " + name.substring(1) + ";", 9);
            laws("law most " + name.substring(0, name.length() - 1) + ";", 9);
        }
    }

    /** A law for which just the one is next for whom what stands in brackets is so. */
    private static void only(LastServed x, String so, int who) {
        next(x, "most (" + so + ")", who);
    }

    private static void came() {
        LastServed x = withPeople(4);
        for (int k = 0; k < 4; k++) {
            only(x, "came = " + k, k);
        }
        next(x, "least came", 0);
        x.turn(0);
        only(x, "came = 4", 0);
        next(x, "most came", 0);
        next(x, "least came", 1);
        LastServed y = Check.withTown("counter 0 1 0; sort a 0 1 240 0 0 0; bow 2; close 240;");
        y.come(0, 0);
        y.turn(0);
        y.come(0, 0);
        y.go(3);
        // who bowed came in at 2
        only(y, "came = 2", 0);
        only(y, "came = 0", 1);
    }

    private static void waited() {
        LastServed x = withPeople(3);
        x.come(0, 0);
        for (int k = 0; k < 4; k++) {
            only(x, "wait = " + (3 - k), k);
        }
        x.turn(0);
        next(x, "most wait", 0);
        only(x, "wait = 3", 0);
        LastServed y = Check.withTown("counter 0 1 0; sort a 0 1 240 0 0 0; close 240;");
        y.come(0, 0);
        y.come(0, 0);
        y.go(239);
        y.come(0, 0);
        next(y, "most (wait = 239) * behind", 0);
        only(y, "wait = 0", 2);
    }

    private static void sortAndWorth() {
        LastServed x = Check.withTown("counter 0 1 0; sort a 0 0 240 0 0 0; sort b 0 99 240 0 0 0; sort c 0 1 240 0 0 0;"
            + "sort d 0 98 240 0 0 0; sort e 0 50 240 0 0 0;");
        int[] worths = {0, 99, 1, 98, 50};
        for (int k = 0; k < 5; k++) {
            x.come(k, 0);
        }
        for (int k = 0; k < 5; k++) {
            only(x, "sort = " + k, k);
            only(x, "worth = " + worths[k], k);
        }
        next(x, "most worth", 1);
        next(x, "least worth", 0);
        next(x, "least sort", 0);
        next(x, "most sort", 4);
    }

    private static void aheadBehindMany() {
        for (int many : new int[] {1, 2, 5, 29}) {
            LastServed x = withPeople(many);
            // one at another counter isn't counted
            Check.due("one at the other counter", x.come(0, 1), many);
            for (int k = 0; k < many && k < 5; k++) {
                only(x, "ahead = " + k, k);
                only(x, "behind = " + (many - 1 - k), k);
            }
            next(x, "most (many = " + many + ") * behind", 0);
            next(x, "most (many < " + many + ") * behind", many - 1);
            next(x, "most (many < " + (many + 1) + ") * behind", 0);
        }
        LastServed y = Check.withTown("counter 0 1 0; sort a 0 1 240 0 0 0; bow 5;");
        for (int k = 0; k < 4; k++) {
            y.come(0, 0);
        }
        y.turn(1);
        only(y, "ahead = 1", 2);
        only(y, "behind = 2", 0);
        next(y, "most (many = 3) * behind", 0);
    }

    private static void minuteAndLeft() {
        for (int close : new int[] {10, 240}) {
            LastServed x = Check.withTown("counter 0 1 0; sort a 0 1 240 0 0 0; close " + close + ";");
            x.come(0, 0);
            x.come(0, 0);
            for (int minute : new int[] {0, 1, close - 1}) {
                if (minute > x.count(2)) {
                    x.go(minute - x.count(2));
                }
                next(x, "most (minute = " + minute + ") * behind", 0);
                next(x, "most (minute = " + (minute + 1) + ") * behind", 1);
                next(x, "most (left = " + (close - minute) + ") * behind", 0);
                next(x, "most (left = " + (close - minute + 1) + ") * behind", 1);
            }
        }
        LastServed usual = Check.withTown("counter 0 1 0; sort a 0 1 240 0 0 0;");
        usual.come(0, 0);
        usual.come(0, 0);
        next(usual, "most (left = 120) * behind", 0);
    }

    private static void turns() {
        for (int bow = 0; bow <= 1; bow++) {
            LastServed x = Check.withTown("counter 0 1 0; sort a 0 1 240 0 0 0; bow " + bow + ";");
            for (int k = 0; k < 4; k++) {
                x.come(0, 0);
            }
            for (int k = 1; k < 4; k++) {
                for (int turn = 0; turn < k; turn++) {
                    x.turn(k);
                    x.go(2);
                }
            }
            for (int k = 0; k < 4; k++) {
                only(x, "turns = " + k, k);
            }
        }
    }

    private static void firstAndLast() {
        for (int many : new int[] {1, 2, 3, 30}) {
            LastServed x = withPeople(many);
            Check.due("FIRST of " + many, x.next(0, 0), 0);
            Check.due("LAST of " + many, x.next(0, 1), many - 1);
            x.turn(0);
            Check.due("FIRST behind a turn of " + many, x.next(0, 0), many == 1 ? 0 : 1);
            Check.due("LAST behind a turn of " + many, x.next(0, 1), 0);
        }
        // the counters go by them, too
        LastServed y = Check.withTown("counter 0 1 9; counter 1 1 9; sort a 0 1 99 0 0 0;");
        for (int k = 0; k < 3; k++) {
            y.come(0, 0);
            y.come(0, 1);
        }
        y.go(1);
        Check.due("FIRST is served", y.book(0, 2), 0);
        Check.due("LAST is served", y.book(1, 2), 5);
    }

    private static void middle() {
        LastServed x = Check.withTown("counter 2 1 9; sort a 0 1 99 0 0 0;");
        for (int many = 1; many <= 30; many++) {
            x.come(0, 0);
            Check.due("MIDDLE of " + many, x.next(0, 2), many / 2);
        }
        for (int many = 30; many > 25; many--) {
            int who = x.inside(0, many / 2);
            x.go(1);
            Check.due("MIDDLE is served of " + many, x.person(who, 0), NONE);
        }
    }

    private static void lotBelowN() {
        for (int seed : new int[] {0, 1, 4711, 999999, 1000000}) {
            LastServed x = Check.withTown("counter 3 1 99; sort a 0 1 240 0 0 0;");
            for (int k = 0; k < 30; k++) {
                x.come(0, 0);
            }
            x.seed(seed);
            Lots lots = new Lots(seed);
            for (int many = 30; many >= 1; many--) {
                lots.below(16);
                int place = lots.below(many);
                int who = x.inside(0, place);
                x.go(1);
                int entry = Math.min(30 - many, 19);
                Check.due("place by LOT of " + many, x.book(entry, 4), place);
                Check.due("who by LOT of " + many, x.book(entry, 2), who);
                Check.due("INSIDE", x.counter(0, 3), many - 1);
            }
        }
    }

    private static void toldLaws() {
        for (int many : new int[] {1, 2, 30}) {
            LastServed x = withPeople(many);
            next(x, "least 5", many - 1);
            next(x, "most 5", many - 1);
            next(x, "most 0 - 1000 * 1000", many - 1);
            next(x, "least 1000 * 1000", many - 1);
            next(x, "least 0 - 1000 * 1000", many - 1);
            next(x, "most 1000 * 1000", many - 1);
            next(x, "least ahead", 0);
            next(x, "most 0 - ahead", 0);
            next(x, "most behind", 0);
        }
        LastServed x = withPeople(6);
        next(x, "most (ahead < 3)", 2);
        next(x, "least (2 < ahead)", 2);
        next(x, "least (ahead < 5)", 5);
        next(x, "most (0 < ahead) * (ahead < 3)", 2);
        x.turn(1);
        // of those for whom it is so, 1 came in last now
        next(x, "most (came < 3) + (came = 6)", 1);
        // a counter with LAW 8 goes by the 5th line
        LastServed y = Check.withTown("counter 8 1 9; counter 4 1 9; sort a 0 1 99 0 0 0;");
        Check.tellLaws(y, "law least ahead; law most 1; law most 1; law most 1; law most (ahead = 1);");
        for (int k = 0; k < 3; k++) {
            y.come(0, 0);
            y.come(0, 1);
        }
        y.go(1);
        Check.due("by LAW 8", y.book(0, 2), 2);
        Check.due("by LAW 4", y.book(1, 2), 1);
    }

    private static void noSuchLaw() {
        for (int told = 0; told <= 5; told++) {
            LastServed x = Check.withTown("counter " + Math.min(4 + told, 8) + " 1 9; sort a 0 1 99 0 0 0;");
            if (told > 0) {
                Check.tellLaws(x, "law least ahead;".repeat(told));
            }
            for (int k = 0; k < 3; k++) {
                x.come(0, 0);
            }
            for (int law = 4; law <= 8; law++) {
                Check.due("LAW " + law + " with " + told, x.next(0, law), law - 4 < told ? 0 : 2);
            }
            x.go(1);
            Check.due("who is served with " + told, x.book(0, 2), told == 5 ? 0 : 2);
        }
        // of five that were told fewer are told anew: the others are as LAST again
        for (int fewer = 1; fewer <= 5; fewer++) {
            LastServed x = withPeople(3);
            Check.tellLaws(x, "law least ahead + 1 - 1 * 1;".repeat(5));
            Check.tellLaws(x, "law most behind;".repeat(fewer));
            x.comer(0, 9);
            x.comer(1, 1);
            x.comer(2, 1);
            x.comer(3, 1);
            for (int law = 4; law <= 8; law++) {
                Check.due("LAW " + law + " with " + fewer, x.next(0, law), law - 4 < fewer ? 0 : 2);
                Check.due("LAW " + law + " of a row with " + fewer, x.waits(law, 1, 0), law - 4 < fewer ? 1 : 3);
            }
        }
    }

    private static void nextByEachLaw() {
        LastServed x = withPeople(5);
        Check.tellLaws(x, "law most (ahead = 0); law most (ahead = 1); law most (ahead = 2); law most (ahead = 3);"
            + "law most (ahead = 4);");
        int[] due = {0, 4, 2, NONE, 0, 1, 2, 3, 4, NONE, NONE};
        for (int law = 0; law < due.length; law++) {
            Check.due("next by " + law, x.next(0, law), due[law]);
        }
        Check.due("nobody went for it", x.counter(0, 3), 5);
    }

    private static void nextOfNobody() {
        LastServed x = Check.withTown("counter 0 1 0; counter 0 1 0; counter 0 1 0; sort a 0 1 99 0 0 0; bow 5;");
        Check.due("come", x.come(0, 2), 0);
        for (int law : new int[] {Integer.MIN_VALUE, -1, 3, 9, 10, 256, Integer.MAX_VALUE}) {
            Check.due("next by " + law, x.next(2, law), NONE);
        }
        for (int law = 0; law <= 8; law++) {
            Check.due("next where nobody is by " + law, x.next(1, law), NONE);
            Check.due("next where one is by " + law, x.next(2, law), law == 3 ? NONE : 0);
            for (int counter : new int[] {Integer.MIN_VALUE, -1, 3, 4, Integer.MAX_VALUE}) {
                Check.due("next at " + counter, x.next(counter, law), NONE);
            }
        }
        x.turn(0);
        for (int law = 0; law <= 8; law++) {
            Check.due("nobody but one OUTSIDE by " + law, x.next(2, law), NONE);
            Check.due("without a TOWN by " + law, new LastServed().next(0, law), NONE);
        }
    }
}
