import java.util.ArrayList;
import java.util.List;
import java.util.function.ToIntFunction;

/** Terms 1 and promises 1 to 6: each sentence that names an edge of a text, of its tokens, or of a town. */
public final class TownEdgesTest {
    private static final int NONE = LastServed.NONE;
    private static final int VOID = LastServed.VOID;
    private static final String COUNTER = "counter 0 1 1;";
    private static final String SORT = "sort a 1 1 1 1 1 1;";
    private static final String REST = " 1 1 1 1 1 1;";
    private static final String WHOLE = COUNTER + SORT;

    public static void main(String[] args) {
        bytesAndTokens();
        countersAndSorts();
        closeFeeBow();
        faults();
        Sentences.holds("A TOWN without one takes the place of the one ahead: MINUTE 0, nobody there, all STOCKS whole,"
            + " nothing told of SORTS, no BOOK, no images; lots from 0 on; LAWS stay.", TownEdgesTest::aNewTown);
        promises();
        Check.close("TownEdgesTest");
    }

    private static void bytesAndTokens() {
        Sentences.holds("A TOWN is a text of at most 500 bytes.", TownEdgesTest::fiveHundredBytes);
        Sentences.holds("TOKENS (of both texts): words of small letters, numbers of digits", TownEdgesTest::everyByte);
        Sentences.holds("as long as can be, and + - * < = ( ) ;", TownEdgesTest::asLongAsCanBe);
        Sentences.holds("with any blanks (32) and line ends (10) between", TownEdgesTest::blanksBetween);
        Sentences.holds("It is any number of, in any order:", TownEdgesTest::anyOrder);
    }

    private static void countersAndSorts() {
        Sentences.holds("at most 3 COUNTERS, numbers as they come", TownEdgesTest::threeCounters);
        Sentences.holds("its LAW L 0 .. 8",
            () -> numbers(SORT + "counter ", " 1 1;", 0, 8, x -> x.counter(0, 0)));
        Sentences.holds("S minutes for each, 1 .. 9",
            () -> numbers(SORT + "counter 0 ", " 1;", 1, 9, x -> x.counter(0, 1)));
        Sentences.holds("STOCK K 0 .. 99",
            () -> numbers(SORT + "counter 0 1 ", ";", 0, 99, x -> x.counter(0, 2)));
        Sentences.holds("at most 5 SORTS, numbers as they come", TownEdgesTest::fiveSorts);
        Sentences.holds("a word of at most 8 letters", TownEdgesTest::eightLetters);
        Sentences.holds("but: counter sort close fee bow", TownEdgesTest::wordsThatAreNoNames);
        Sentences.holds("all unlike", TownEdgesTest::namesAreUnlike);
        Sentences.holds("one comes in a minute with A of 16, 0 .. 16",
            () -> numbers(COUNTER + "sort a ", " 1 1 1 1 1;", 0, 16, x -> x.sort(0, 0)));
        Sentences.holds("WORTH W 0 .. 99",
            () -> numbers(COUNTER + "sort a 1 ", " 1 1 1 1;", 0, 99, x -> x.sort(0, 1)));
        Sentences.holds("PATIENCE D 1 .. 240",
            () -> numbers(COUNTER + "sort a 1 1 ", " 1 1 1;", 1, 240, x -> x.sort(0, 2)));
        Sentences.holds("a minute costs I inside, O outside, 0 .. 9 each", TownEdgesTest::costsOfAMinute);
        Sentences.holds("WAY G 0 .. 2",
            () -> numbers(COUNTER + "sort a 1 1 1 1 1 ", ";", 0, 2, x -> x.sort(0, 5)));
    }

    private static void closeFeeBow() {
        Sentences.holds("close T ;   (once: 10 .. 240; 120 without)", () -> only("close", 10, 240, 3, 120));
        Sentences.holds("fee F ;   (once: 0 .. 99; 0 without)", () -> only("fee", 0, 99, 4, 0));
        Sentences.holds("bow B ;   (once: 0 .. 9; 0 without)", () -> only("bow", 0, 9, 5, 0));
    }

    private static void faults() {
        Sentences.holds("The FAULT is the place (from 0 on) of the first byte of the first TOKEN that can't stand there",
            TownEdgesTest::theFirstToken);
        Sentences.holds("a number that can't be", TownEdgesTest::numbersThatCannotBe);
        Sentences.holds("a NAME that can't be or is told already", TownEdgesTest::namesThatCannotBe);
        Sentences.holds("a 4th counter, 6th sort, second close, fee, bow at their first words", TownEdgesTest::oneTooMany);
        Sentences.holds("or of a byte that begins no TOKEN, if that is ahead", TownEdgesTest::bytesAhead);
        Sentences.holds("the length, if it ends too early", TownEdgesTest::endsTooEarly);
        Sentences.holds("or has no COUNTER or no SORT", TownEdgesTest::withoutCounterOrSort);
        Sentences.holds("NONE without.", TownEdgesTest::withoutFault);
    }

    private static void promises() {
        Sentences.holds("The constants: `NONE = -1`: There is none. `VOID = -2147483648`: There is none of what may be"
            + " below 0.", TownEdgesTest::constants);
        Sentences.holds("`LastServed()`: No TOWN, no LAWS.", TownEdgesTest::aNewObject);
        Sentences.holds("Bytes come behind those of the text, of each number the highest first (20 of them): how many"
            + " there are", TownEdgesTest::bytesComeBehind);
        Sentences.holds("NONE if there would be more than 500.", TownEdgesTest::noMoreThanFiveHundred);
        Sentences.holds("The text has its first n bytes alone: true", TownEdgesTest::firstBytesAlone);
        Sentences.holds("false if it has not so many, or n is below 0.", TownEdgesTest::notSoMany);
        Sentences.holds("The FAULT of the text as a TOWN (what 0), or as LAWS (1); VOID for others.",
            TownEdgesTest::whatOfFault);
        Sentences.holds("The TOWN comes of the text, which is empty then: how many COUNTERS; NONE with a FAULT (it stays).",
            TownEdgesTest::townOfTheText);
        Sentences.holds("LAWS come of the text, which is empty then: how many; NONE with a FAULT (it stays).",
            TownEdgesTest::lawsOfTheText);
    }

    private static LastServed fed(String text) {
        LastServed x = new LastServed();
        Check.text(x, text);
        return x;
    }

    /** The fault is told, and town goes by it: with one the text stays and there is no town. */
    private static void town(String text, int fault) {
        LastServed x = fed(text);
        Check.due("fault(0) of '" + text + "'", x.fault(0), fault);
        Check.due("fault(0) of '" + text + "' once more", x.fault(0), fault);
        boolean stands = x.town() != NONE;
        Check.due("town of '" + text + "'", stands, fault == NONE);
        Check.due("a town behind '" + text + "'", x.count(0) > 0, fault == NONE);
        Check.due("bytes behind '" + text + "'", x.count(9), fault == NONE ? 0 : text.length());
    }

    private static void laws(String text, int fault) {
        Check.due("fault(1) of '" + text + "'", fed(text).fault(1), fault);
    }

    private static String filled(String text, int length) {
        return text + " ".repeat(length - text.length());
    }

    private static void fiveHundredBytes() {
        for (int bytes = 495; bytes <= 500; bytes++) {
            LastServed x = fed(filled(WHOLE, bytes - 6) + "fee 7;");
            Check.due("bytes", x.count(9), bytes);
            Check.due("no more comes", x.feed(0x3b3b3b3b, 0x3b3b3b3b, 0x3b3b3b3b, 0x3b3b3b3b, 0x3b3b3b3b), NONE);
            Check.due("bytes as before", x.count(9), bytes);
            Check.due("fault of " + bytes + " bytes", x.fault(0), NONE);
            Check.due("town of " + bytes + " bytes", x.town(), 1);
            Check.due("the last token is read", x.count(4), 7);
        }
        town(filled(WHOLE, 500), NONE);
        town(filled(WHOLE, 499) + ";", 499);
        town(filled(WHOLE, 496) + "bow0", 500);
        // a word of which the 500th byte is the last
        for (String word : new String[] {"counter", "sort", "close", "fee", "bow"}) {
            town(filled(WHOLE, 500 - word.length()) + word, 500);
            town(filled(WHOLE, 499 - word.length()) + word + "s", 499 - word.length());
        }
        town(filled(WHOLE, 493) + " sort b", 500);
        town(filled(WHOLE, 493) + " sort a", 499);
        town(filled(WHOLE, 492) + "sort bow", 497);
    }

    private static boolean isLetter(int b) {
        return b >= 97 && b <= 122;
    }

    private static boolean isDigit(int b) {
        return b >= 48 && b <= 57;
    }

    private static boolean isBetween(int b) {
        return b == 32 || b == 10;
    }

    private static void everyByte() {
        for (int b = 0; b < 256; b++) {
            char sign = (char) b;
            town(WHOLE + sign, isBetween(b) ? NONE : WHOLE.length());
            town(sign + WHOLE, isBetween(b) ? NONE : 0);
            // behind a name: a letter makes it longer, a digit is a number, so that the last number is one too many
            int behindName = isLetter(b) || isBetween(b) ? NONE : isDigit(b) ? 32 : 20;
            town(COUNTER + "sort a" + sign + REST, behindName);
            int behindNumber = isDigit(b) || isBetween(b) ? NONE : b == ';' ? 14 : 13;
            town("counter 0 1 1" + sign + ";" + SORT, behindNumber);
            boolean joins = isDigit(b) || b == '+' || b == '-' || b == '*';
            laws("law least 1" + sign + "1;", joins ? NONE : isBetween(b) || b == ';' ? 12 : 11);
            boolean compares = joins || b == '<' || b == '=';
            laws("law least (1" + sign + "1);", compares ? NONE : isBetween(b) || b == ')' ? 13 : 12);
            int alone = isBetween(b) || b == '(' ? 11 : isDigit(b) ? NONE : 10;
            laws("law least " + sign + ";", alone);
        }
    }

    private static void asLongAsCanBe() {
        town("counter10 1 1;" + SORT, 7);
        town("counter8 1 1;" + SORT, NONE);
        town("counter 0 11;" + SORT, 10);
        town("counter 0 1 1;sorta 1 1 1 1 1 1;", 14);
        town("counter 0 1 1;sort a1 1 1 1 1 1;", NONE);
        town("counter 0 1 1;sort a11 1 1 1 1;", 30);
        town("counter 0 1 1;sort ab" + REST + "sort a" + REST + "sort b" + REST, NONE);
        laws("law leastcame;", 4);
        laws("lawleast came;", 0);
        laws("law least camewait;", 10);
        laws("law least came1;", 14);
        laws("law least 1came;", 11);
        laws("law least 9999;", NONE);
        laws("law least 99 99;", 13);
        laws("law least 99990;", 10);
    }

    private static void blanksBetween() {
        String[] tokens = "counter 0 1 1 ; sort a 1 1 1 1 1 1 ;".split(" ");
        for (String between : new String[] {" ", "\n", "  ", "\n\n", " \n ", "      \n\n\n      "}) {
            town(String.join(between, tokens), NONE);
            town(between + String.join(between, tokens) + between, NONE);
        }
        for (char no : new char[] {0, 9, 11, 12, 13, 31, 33, 160}) {
            town("counter" + no + "0 1 1;" + SORT, 7);
            town("counter 0" + no + " 1 1;" + SORT, 9);
            town(WHOLE + "\n" + no, 34);
            laws("law" + no + "least 1;", 3);
        }
        town("counter0\n1 1;sort\na1 1 1 1 1 1;", NONE);
        laws("\nlaw\nleast\n(\n1\n<\nwait\n)\n*\n2\n;\n", NONE);
        laws("law least(1<wait)*2;law most came;", NONE);
    }

    private static void orders(List<String> rest, String ahead, List<String> all) {
        if (rest.isEmpty()) {
            all.add(ahead);
        }
        for (int k = 0; k < rest.size(); k++) {
            List<String> fewer = new ArrayList<>(rest);
            fewer.remove(k);
            orders(fewer, ahead + rest.get(k), all);
        }
    }

    private static void anyOrder() {
        List<String> all = new ArrayList<>();
        orders(List.of("counter 3 2 7;", "sort abc 4 5 6 7 8 1;", "close 33;", "fee 44;", "bow 5;"), "", all);
        for (String text : all) {
            LastServed x = Check.withTown(text);
            int[] got = {x.counter(0, 0), x.counter(0, 1), x.counter(0, 2), x.sort(0, 0), x.sort(0, 1), x.sort(0, 2),
                x.sort(0, 3), x.sort(0, 4), x.sort(0, 5), x.count(0), x.count(1), x.count(3), x.count(4), x.count(5)};
            int[] due = {3, 2, 7, 4, 5, 6, 7, 8, 1, 1, 1, 33, 44, 5};
            for (int k = 0; k < due.length; k++) {
                Check.due("fact " + k + " of " + text, got[k], due[k]);
            }
        }
        town("", 0);
        // all that there may be: 3, 5 and one each
        town("bow 1;" + COUNTER + "sort a" + REST + "fee 1;sort b" + REST + COUNTER + "sort c" + REST + "close 10;"
            + COUNTER + "sort d" + REST + "sort e" + REST, NONE);
    }

    private static void threeCounters() {
        StringBuilder text = new StringBuilder(SORT);
        for (int many = 1; many <= 3; many++) {
            text.append("counter ").append(many).append(' ').append(many + 1).append(' ').append(many * 10).append(";");
            LastServed x = fed(text.toString());
            Check.due("town() with " + many, x.town(), many);
            Check.due("COUNTERS", x.count(0), many);
            for (int k = 0; k < many; k++) {
                Check.due("LAW of " + k, x.counter(k, 0), k + 1);
                Check.due("S of " + k, x.counter(k, 1), k + 2);
                Check.due("STOCK of " + k, x.counter(k, 2), k * 10 + 10);
            }
            Check.due("no more COUNTERS than " + many, x.counter(many, 0), NONE);
        }
        town(text + "counter 1 1 1;", text.length());
        town(SORT, SORT.length());
    }

    private static void fiveSorts() {
        StringBuilder text = new StringBuilder(COUNTER);
        for (int many = 1; many <= 5; many++) {
            text.append("sort ").append((char) ('z' - many)).append(' ').append(many).append(' ').append(many * 2)
                .append(' ').append(many * 3).append(" 1 2 2;");
            LastServed x = Check.withTown(text.toString());
            Check.due("SORTS", x.count(1), many);
            for (int k = 0; k < many; k++) {
                Check.due("A of " + k, x.sort(k, 0), k + 1);
                Check.due("W of " + k, x.sort(k, 1), k * 2 + 2);
                Check.due("D of " + k, x.sort(k, 2), k * 3 + 3);
            }
            Check.due("no more SORTS than " + many, x.sort(many, 0), VOID);
        }
        town(text + "sort a" + REST, text.length());
        town(COUNTER, COUNTER.length());
    }

    /** Every number from below the least to above the greatest, and some that a short count of digits would take. */
    private static void numbers(String ahead, String behind, int low, int high, ToIntFunction<LastServed> fact) {
        for (int number = 0; number <= high + 2; number++) {
            boolean can = number >= low && number <= high;
            town(ahead + number + behind, can ? NONE : ahead.length());
            if (can) {
                LastServed x = Check.withTown(ahead + number + behind);
                Check.due("'" + ahead + number + behind + "'", fact.applyAsInt(x), number);
            }
        }
        for (String longer : new String[] {low + "000", "256", "257", "65536", "65537", "100000", "100001", "2147483647",
            "2147483648", "4294967296", "4294967297", "18446744073709551617", "99999999999999999999999999999999999999"}) {
            town(ahead + longer + behind, longer.equals("0000") ? NONE : ahead.length());
        }
        town(ahead + "-" + low + behind, ahead.length());
        town(ahead + "a" + behind, ahead.length());
        town(ahead + behind.trim(), ahead.length() + (behind.trim().equals(";") ? 0 : shortOfOne(behind)));
    }

    /** With a number too few all those behind it stand one place sooner, if they can, and ; comes too soon. */
    private static int shortOfOne(String behind) {
        return behind.trim().length() - 1;
    }

    private static void costsOfAMinute() {
        numbers(COUNTER + "sort a 1 1 1 ", " 1 1;", 0, 9, x -> x.sort(0, 3));
        numbers(COUNTER + "sort a 1 1 1 1 ", " 1;", 0, 9, x -> x.sort(0, 4));
    }

    private static void eightLetters() {
        String letters = "abcdefghijklmnopqrstuvwxyz";
        for (int many = 1; many <= 26; many++) {
            town(COUNTER + "sort " + letters.substring(0, many) + REST, many <= 8 ? NONE : 19);
            town(COUNTER + "sort " + letters.substring(26 - many) + REST, many <= 8 ? NONE : 19);
        }
        town(COUNTER + "sort" + REST, 19);
        town(COUNTER + "sort A" + REST, 19);
    }

    private static void wordsThatAreNoNames() {
        for (String word : new String[] {"counter", "sort", "close", "fee", "bow"}) {
            town(COUNTER + "sort " + word + REST, 19);
            town(COUNTER + "sort a" + REST + "sort " + word + REST, 38);
            town(COUNTER + "sort " + word + "s" + REST, NONE);
            town(COUNTER + "sort s" + word.substring(1) + "x" + REST, NONE);
            town(COUNTER + "sort " + word.substring(0, word.length() - 1) + REST, NONE);
            town(COUNTER + "sort " + word.substring(1) + REST, NONE);
        }
        for (String word : new String[] {"law", "least", "most", "came", "worth", "none"}) {
            town(COUNTER + "sort " + word + REST, NONE);
        }
    }

    private static void namesAreUnlike() {
        String[] unlike = {"abcdefgh", "abcdefgi", "bbcdefgh", "abcdefg", "a"};
        StringBuilder text = new StringBuilder(COUNTER);
        for (int k = 0; k < 5; k++) {
            for (int like = 0; like < k; like++) {
                town(text + "sort " + unlike[like] + REST, text.length() + 5);
            }
            text.append("sort ").append(unlike[k]).append(REST);
            town(text.toString(), NONE);
        }
        // whatever stands behind them
        for (String behind : new String[] {" 1", "\n1", "1", "  1"}) {
            town(COUNTER + "sort a" + REST + "sort a" + behind + " 1 1 1 1 1;", 38);
            town(COUNTER + "sort a" + REST + "sort b" + behind + " 1 1 1 1 1;", NONE);
        }
        // a name of an earlier town is free in the next one
        LastServed x = Check.withTown(WHOLE);
        Check.tellTown(x, WHOLE);
    }

    private static void only(String word, int low, int high, int count, int without) {
        numbers(WHOLE + word + " ", ";", low, high, x -> x.count(count));
        Check.due("without " + word, Check.withTown(WHOLE).count(count), without);
        String once = word + " " + low + ";";
        town(once + WHOLE, NONE);
        town(once + once + WHOLE, once.length());
        town(WHOLE + once + once, (WHOLE + once).length());
        town(once + WHOLE + once, (once + WHOLE).length());
        // what an earlier town told isn't told of the next one
        LastServed x = Check.withTown(WHOLE + word + " " + high + ";");
        Check.tellTown(x, WHOLE);
        Check.due("without " + word + " behind a town with it", x.count(count), without);
    }

    private static void theFirstToken() {
        town(";" + WHOLE, 0);
        town("  ;" + WHOLE, 2);
        town("a" + WHOLE, 0);
        town("counter counter 1 1;" + SORT, 8);
        town("counter 0 1 1 1;" + SORT, 14);
        town("counter 0 1;" + SORT, 11);
        town("counter 0 1 1 sort a 1 1 1 1 1 1;", 14);
        town("counter 0 1 1;; " + SORT, 14);
        town("counter 0 1 1;\n\n  3 " + SORT, 18);
        town(WHOLE + "law least 1;", 33);
        town(WHOLE + "close ;", 39);
        town(WHOLE + "close close", 39);
        town(WHOLE + "close 10 10;", 42);
        for (char sign : "+-*<=()".toCharArray()) {
            town(WHOLE + sign, 33);
            town("counter " + sign + "1 1 1;" + SORT, 8);
        }
        // the first of two
        town("counter 9 0 100;" + SORT, 8);
        town("counter 0 0 100;" + SORT, 10);
        town("counter 0 1 100;", 12);
    }

    private static void numbersThatCannotBe() {
        town("counter 9 1 1;" + SORT, 8);
        town("counter 0 0 1;" + SORT, 10);
        town("counter 0 10 1;" + SORT, 10);
        town("counter 0 1 100;" + SORT, 12);
        town(COUNTER + "sort a 17 1 1 1 1 1;", 21);
        town(COUNTER + "sort a 1 100 1 1 1 1;", 23);
        town(COUNTER + "sort a 1 1 0 1 1 1;", 25);
        town(COUNTER + "sort a 1 1 241 1 1 1;", 25);
        town(COUNTER + "sort a 1 1 1 10 1 1;", 27);
        town(COUNTER + "sort a 1 1 1 1 10 1;", 29);
        town(COUNTER + "sort a 1 1 1 1 1 3;", 31);
        town(WHOLE + "close 9;", 39);
        town(WHOLE + "close 241;", 39);
        town(WHOLE + "fee 100;", 37);
        town(WHOLE + "bow 10;", 37);
    }

    private static void namesThatCannotBe() {
        town(COUNTER + "sort ninechars" + REST, 19);
        town(COUNTER + "sort  bow" + REST, 20);
        town(COUNTER + "sort 7" + REST, 19);
        town(COUNTER + "sort (" + REST, 19);
        town(COUNTER + "sort a" + REST + "sort a", 38);
        town(COUNTER + "sort a" + REST + "sort  a" + REST, 39);
        town(COUNTER + "sort a" + REST + "sort b" + REST + "sort b" + REST, 57);
    }

    private static void oneTooMany() {
        town(COUNTER + COUNTER + COUNTER + SORT, NONE);
        town(COUNTER + COUNTER + COUNTER + SORT + " " + COUNTER, 62);
        town(COUNTER + COUNTER + COUNTER + SORT + " counter", 62);
        String five = "sort a" + REST + "sort b" + REST + "sort c" + REST + "sort d" + REST + "sort e" + REST;
        town(COUNTER + five, NONE);
        town(COUNTER + five + "\nsort f" + REST, 110);
        town(COUNTER + five + "\nsort", 110);
        for (String word : new String[] {"close", "fee", "bow"}) {
            String one = word + " " + (word.equals("close") ? 10 : 1) + ";";
            town(WHOLE + one, NONE);
            town(WHOLE + one + "  " + word, 35 + one.length());
            town(WHOLE + one + "  " + one, 35 + one.length());
        }
    }

    private static void bytesAhead() {
        town("? ;" + WHOLE, 0);
        town("; ?" + WHOLE, 0);
        town("counter ? counter", 8);
        town("counter counter ?", 8);
        town("counter 0 1 1?;" + SORT, 13);
        town("counter 0 1 1 1?" + SORT, 14);
        town("counter 0 1 1" + (char) 255, 13);
        town(WHOLE + "close 9?;", 39);
        town(WHOLE + "close 10?", 41);
        laws("law least 1 ? 1;", 12);
        laws("law least 1 1 ?;", 12);
    }

    private static void endsTooEarly() {
        String text = "counter 0 1 1 ; sort abc 1 1 1 1 1 1 ; close 10 ; fee 0 ; bow 0 ;";
        int whole = text.indexOf("close");
        for (int length = 0; length < text.length(); length++) {
            // where a blank or ; follows a whole token stands ahead, and the text could go on
            boolean atToken = length == 0 || text.charAt(length) == ' ' || text.charAt(length - 1) == ' ';
            boolean ended = length >= whole - 1 && text.substring(0, length).trim().endsWith(";");
            if (atToken) {
                town(text.substring(0, length), ended ? NONE : length);
            }
        }
        town("counter 0 1 1; sort", 19);
        town("counter 0 1 1; sort  \n", 22);
        town(WHOLE + "close 10", 41);
        town(WHOLE + "close", 38);
        // a word that isn't whole is a token, and can't stand there
        town("counte", 0);
        town(WHOLE + "clos", 33);
    }

    private static void withoutCounterOrSort() {
        town("", 0);
        town(" ", 1);
        town("close 10; fee 1; bow 1;", 23);
        town(COUNTER, 14);
        town(COUNTER + COUNTER + COUNTER + "  ", 44);
        town(SORT, 19);
        town(SORT + "close 10;\n", 29);
        town(COUNTER + SORT, NONE);
        // of a fault that is ahead that one is told
        town(COUNTER + ";", 14);
    }

    private static void withoutFault() {
        Check.due("NONE", NONE, -1);
        Check.due("a town without a fault", fed(WHOLE).fault(0), -1);
        Check.due("laws without a fault", fed("law least 1;").fault(1), -1);
        Check.due("laws are no town", fed("law least 1;").fault(0), 0);
        Check.due("a town is no laws", fed(WHOLE).fault(1), 0);
    }

    private static LastServed aTownThatWentOn() {
        LastServed x = Check.withTown("counter 0 3 50; counter 1 2 50; counter 2 1 9; sort a 16 50 99 1 1 0;"
            + "sort b 16 50 3 1 1 1; sort c 16 1 99 9 9 2; close 100; fee 9; bow 5;");
        Check.tellLaws(x, "law least came; law most came;");
        x.seed(123456);
        x.comer(3, 4);
        x.go(20);
        for (int k = 0; k < 3; k++) {
            x.image(k);
        }
        x.go(5);
        return x;
    }

    private static void aNewTown() {
        LastServed x = aTownThatWentOn();
        Check.due("MINUTE", x.count(2), 25);
        Check.due("somebody is there", x.count(7) > 0, true);
        Check.due("STOCK is less", x.counter(0, 2) < 50 && x.counter(1, 2) < 50, true);
        Check.due("SORTS are told of", x.sort(0, 10) > 0 && x.sort(0, 11) > 0 && x.sort(1, 12) > 0, true);
        Check.due("BOOK", x.book(NONE, 0), 20);
        Check.text(x, "counter 0 9 50; counter 0 9 40; counter 1 9 9; sort a 0 50 99 1 1 0; sort b 8 50 99 1 1 0;");
        Check.due("town()", x.town(), 3);
        Check.due("MINUTE 0", x.count(2), 0);
        Check.due("nobody there", x.count(7), 0);
        for (int k = 0; k < 30; k++) {
            Check.due("nobody is " + k, x.person(k, 0), NONE);
        }
        int[] stocks = {50, 40, 9};
        for (int k = 0; k < 3; k++) {
            Check.due("STOCK of " + k, x.counter(k, 2), stocks[k]);
            Check.due("INSIDE of " + k, x.counter(k, 3), 0);
            Check.due("busy of " + k, x.counter(k, 4), 0);
        }
        for (int sort = 0; sort < 2; sort++) {
            for (int what = 10; what <= 16; what++) {
                Check.due("told of " + sort, x.sort(sort, what), 0);
            }
            Check.due("UNLIKE of " + sort, x.sort(sort, 17), VOID);
        }
        Check.due("no third SORT", x.sort(2, 10), VOID);
        Check.due("no BOOK", x.book(NONE, 0), 0);
        Check.due("no ENTRY", x.book(0, 0), NONE);
        for (int k = 0; k < 3; k++) {
            Check.due("no image " + k, x.on(k), false);
        }
        Check.due("LAWS stay", x.count(6), 2);
        Check.due("120, 0, 0 without", x.count(3) * 10000 + x.count(4) * 100 + x.count(5), 1200000);
        Lots lots = new Lots(0);
        int came = 0;
        for (int minute = 0; minute < 40; minute++) {
            lots.below(16);
            came += lots.below(16) < 8 ? 1 : 0;
            x.go(1);
            Check.due("lots from 0 on, minute " + minute, x.sort(1, 10), came);
        }
        lawsStay();
    }

    private static void lawsStay() {
        LastServed x = aTownThatWentOn();
        Check.tellTown(x, "counter 4 1 0; sort a 0 1 99 0 0 0;");
        x.come(0, 0);
        x.go(1);
        x.come(0, 0);
        Check.due("by LAW 4, least came", x.next(0, 4), 0);
        Check.due("by LAW 5, most came", x.next(0, 5), 1);
    }

    /** By reflection, as the compiler would put the numbers in themselves. */
    private static void constants() {
        String[] names = {"NONE", "VOID"};
        int[] due = {-1, -2147483648};
        for (int k = 0; k < 2; k++) {
            try {
                Check.due(names[k], LastServed.class.getField(names[k]).getInt(null), due[k]);
            } catch (ReflectiveOperationException missing) {
                Check.due(names[k] + " is there", false, true);
            }
        }
    }

    private static void aNewObject() {
        LastServed x = new LastServed();
        for (int what = 0; what <= 9; what++) {
            Check.due("count(" + what + ")", x.count(what), 0);
        }
        Check.due("no counter", x.counter(0, 0), NONE);
        Check.due("no sort", x.sort(0, 0), VOID);
        Check.due("no laws: as LAST", x.comer(0, 9) + x.comer(1, 1) + x.comer(2, 1), 6);
        for (int law = 4; law <= 8; law++) {
            Check.due("LAW " + law + " as LAST", x.waits(law, 1, 0), 2);
        }
        Check.due("nothing to be a town", new LastServed().town(), NONE);
        Check.due("nothing to be laws", new LastServed().laws(), NONE);
    }

    private static void bytesComeBehind() {
        LastServed x = new LastServed();
        // "counter 4 5 6;sort a 7 8 9 1 2 0;;;;;;;;", each four bytes as one number
        Check.due("20 bytes", x.feed(0x636f756e, 0x74657220, 0x34203520, 0x363b736f, 0x72742061), 20);
        Check.due("20 more", x.feed(0x20372038, 0x20392031, 0x20322030, 0x3b3b3b3b, 0x3b3b3b3b), 40);
        Check.due("the first ; too many", x.fault(0), 33);
        Check.due("end", x.end(33), true);
        Check.due("town", x.town(), 1);
        int[] facts = {x.counter(0, 0), x.counter(0, 1), x.counter(0, 2), x.sort(0, 0), x.sort(0, 1), x.sort(0, 2),
            x.sort(0, 3), x.sort(0, 4), x.sort(0, 5)};
        int[] due = {4, 5, 6, 7, 8, 9, 1, 2, 0};
        for (int k = 0; k < due.length; k++) {
            Check.due("fact " + k, facts[k], due[k]);
        }
        // each byte by its own place, also where the number is below 0
        for (int at = 0; at < 20; at++) {
            for (int wrong : new int[] {0, 127, 128, 255}) {
                int[] words = {0x20202020, 0x20202020, 0x20202020, 0x20202020, 0x20202020};
                int shift = 24 - 8 * (at % 4);
                words[at / 4] = words[at / 4] & ~(255 << shift) | wrong << shift;
                LastServed y = new LastServed();
                Check.due("feed", y.feed(words[0], words[1], words[2], words[3], words[4]), 20);
                Check.due("byte " + wrong + " at " + at, y.fault(0), at);
            }
        }
    }

    private static void noMoreThanFiveHundred() {
        for (int bytes = 0; bytes <= 500; bytes++) {
            LastServed x = fed(" ".repeat(bytes));
            boolean room = bytes + 20 <= 500;
            Check.due("feed behind " + bytes, x.feed(0, 0, 0, 0, 0), room ? bytes + 20 : NONE);
            Check.due("bytes", x.count(9), room ? bytes + 20 : bytes);
            Check.due("fault", x.fault(0), bytes);
        }
    }

    private static void firstBytesAlone() {
        for (int bytes = 0; bytes <= 33; bytes++) {
            LastServed x = fed(WHOLE);
            Check.due("end(" + bytes + ")", x.end(bytes), true);
            Check.due("bytes", x.count(9), bytes);
            // what is cut off doesn't come back
            x.feed(0x20202020, 0x20202020, 0x20202020, 0x20202020, 0x20202020);
            Check.due("a town still", x.fault(0) == NONE, bytes == 33);
        }
        LastServed x = fed(filled(WHOLE, 500));
        Check.due("end(500)", x.end(500), true);
        Check.due("end(499)", x.end(499), true);
        Check.due("bytes", x.count(9), 499);
        Check.due("end(0)", x.end(0), true);
        Check.due("bytes", x.count(9), 0);
        Check.due("end(0) of nothing", x.end(0), true);
    }

    private static void notSoMany() {
        for (int bytes : new int[] {0, 1, 19, 20, 33, 499, 500}) {
            String text = bytes < 33 ? " ".repeat(bytes) : filled(WHOLE, bytes);
            for (int n : new int[] {bytes + 1, bytes + 2, bytes + 20, 501, 65536, Integer.MAX_VALUE, -1, -2, -500,
                Integer.MIN_VALUE}) {
                LastServed x = fed(text);
                Check.due("end(" + n + ") of " + bytes, x.end(n), false);
                Check.due("bytes as before", x.count(9), bytes);
                Check.due("fault as before", x.fault(0), bytes < 33 ? bytes : NONE);
            }
        }
    }

    private static void whatOfFault() {
        LastServed x = fed(WHOLE + "?");
        for (int what : new int[] {-1, 2, 3, 10, 256, Integer.MAX_VALUE, Integer.MIN_VALUE}) {
            Check.due("fault(" + what + ")", x.fault(what), VOID);
        }
        Check.due("fault(0)", x.fault(0), 33);
        Check.due("fault(1)", x.fault(1), 0);
        Check.due("bytes", x.count(9), 34);
        Check.due("fault(0) of nothing", new LastServed().fault(0), 0);
        Check.due("fault(1) of nothing", new LastServed().fault(1), 0);
        Check.due("VOID", VOID, Integer.MIN_VALUE);
    }

    private static void townOfTheText() {
        LastServed x = aTownThatWentOn();
        int minute = x.count(2);
        int there = x.count(7);
        for (String wrong : new String[] {"", "   ", COUNTER, SORT, WHOLE + ";", "law least 1;", "?"}) {
            Check.text(x, wrong);
            Check.due("town of '" + wrong + "'", x.town(), NONE);
            Check.due("the text stays", x.count(9), wrong.length());
            Check.due("the town stays", x.count(0) * 10 + x.count(1), 33);
            Check.due("MINUTE stays", x.count(2), minute);
            Check.due("those who are there stay", x.count(7), there);
        }
        Check.text(x, WHOLE + COUNTER + " \n");
        Check.due("town()", x.town(), 2);
        Check.due("the text is empty", x.count(9), 0);
        Check.due("town() of the empty text", x.town(), NONE);
        Check.due("the town is still there", x.count(0), 2);
    }

    private static void lawsOfTheText() {
        LastServed x = new LastServed();
        Check.due("laws() of nothing", x.laws(), NONE);
        Check.tellLaws(x, "law least 1; law most 2;");
        for (String wrong : new String[] {"", " ", "law", "law least 1", "law least 1;;", WHOLE, "?"}) {
            Check.text(x, wrong);
            Check.due("laws of '" + wrong + "'", x.laws(), NONE);
            Check.due("the text stays", x.count(9), wrong.length());
            Check.due("the laws stay", x.count(6), 2);
        }
        for (int many = 1; many <= 5; many++) {
            Check.text(x, "law most 1;".repeat(many));
            Check.due("laws()", x.laws(), many);
            Check.due("LAWS", x.count(6), many);
            Check.due("the text is empty", x.count(9), 0);
        }
        Check.due("laws() of the empty text", x.laws(), NONE);
        Check.due("the laws are still there", x.count(6), 5);
        Check.due("no town comes of it", x.count(0), 0);
    }
}
