/** Promises 1 to 4: a new object, feed, end, fault. */
public final class TextTest {
    private static final int NONE = LastServed.NONE;

    public static void main(String[] args) {
        aNewObjectHasNothing();
        feedTakesTheHighestByteFirst();
        feedStopsAtFiveHundred();
        endShortens();
        faultsOfTowns();
        numbersOfTowns();
        namesOfSorts();
        faultsOfLaws();
        bracketsOfLaws();
        Check.due("fault(2)", new LastServed().fault(2), LastServed.VOID);
        Check.due("fault(-1)", new LastServed().fault(-1), LastServed.VOID);
        Check.close("TextTest");
    }

    private static void aNewObjectHasNothing() {
        LastServed x = new LastServed();
        for (int what = 0; what <= 9; what++) {
            Check.due("count(" + what + ") of a new object", x.count(what), 0);
        }
        Check.due("counter of a new object", x.counter(0, 0), NONE);
        Check.due("sort of a new object", x.sort(0, 0), LastServed.VOID);
        Check.due("go of a new object", x.go(1), NONE);
        Check.due("come of a new object", x.come(0, 0), NONE);
        Check.due("image of a new object", x.image(0), false);
        Check.due("on of a new object", x.on(0), false);
        Check.due("book of a new object", x.book(NONE, 0), 0);
        Check.due("judge of a new object", x.judge(0, 0), NONE);
        Check.due("next of a new object", x.next(0, 0), NONE);
        Check.due("value of a new object", x.value(0, 0, 10000, 0, 0), LastServed.VOID);
        Check.due("town of a new object", x.town(), NONE);
        Check.due("laws of a new object", x.laws(), NONE);
        Check.due("NONE", NONE, -1);
        Check.due("VOID", LastServed.VOID, Integer.MIN_VALUE);
    }

    private static void feedTakesTheHighestByteFirst() {
        LastServed x = new LastServed();
        // "law ", "leas", "t 1;", then blanks
        Check.due("feed", x.feed(0x6c617720, 0x6c656173, 0x7420313b, 0x20202020, 0x20202020), 20);
        Check.due("fault of what was fed", x.fault(1), NONE);
        Check.due("laws of what was fed", x.laws(), 1);
        Check.due("the text is empty then", x.count(9), 0);
        x.feed(0xff202020, 0, 0, 0, 0);
        Check.due("a byte above 127 begins no token", x.fault(1), 0);
        Check.text(x, "law ");
        x.feed(0x6c656173, 0x74203180, 0x3b202020, 0x20202020, 0x20202020);
        Check.due("a byte 128 behind a token", x.fault(1), 11);
    }

    private static void feedStopsAtFiveHundred() {
        LastServed x = new LastServed();
        for (int k = 1; k <= 25; k++) {
            Check.due("feed " + k, x.feed(0x20202020, 0x20202020, 0x20202020, 0x20202020, 0x20202020), 20 * k);
        }
        Check.due("feed 26", x.feed(0, 0, 0, 0, 0), NONE);
        Check.due("bytes", x.count(9), 500);
        Check.due("end(481)", x.end(481), true);
        Check.due("feed beyond 500", x.feed(0, 0, 0, 0, 0), NONE);
        Check.due("bytes", x.count(9), 481);
        Check.due("fault at the length", x.fault(0), 481);
        Check.due("end(480)", x.end(480), true);
        Check.due("feed up to 500", x.feed(0, 0, 0, 0, 0), 500);
        Check.due("the byte 0", x.fault(0), 480);
    }

    private static void endShortens() {
        LastServed x = new LastServed();
        Check.due("end(0) of nothing", x.end(0), true);
        Check.due("end(1) of nothing", x.end(1), false);
        x.feed(0, 0, 0, 0, 0);
        Check.due("end(-1)", x.end(-1), false);
        Check.due("end(21)", x.end(21), false);
        Check.due("bytes", x.count(9), 20);
        Check.due("end(20)", x.end(20), true);
        Check.due("end(7)", x.end(7), true);
        Check.due("bytes", x.count(9), 7);
        Check.due("end(8)", x.end(8), false);
        Check.due("end(least)", x.end(Integer.MIN_VALUE), false);
        Check.due("end(most)", x.end(Integer.MAX_VALUE), false);
    }

    private static void town(String text, int fault) {
        LastServed x = new LastServed();
        Check.text(x, text);
        Check.due("fault(0) of '" + text + "'", x.fault(0), fault);
        Check.due("town of '" + text + "' is there", x.town() != NONE, fault == NONE);
        Check.due("bytes behind town of '" + text + "'", x.count(9), fault == NONE ? 0 : text.length());
    }

    private static void laws(String text, int fault) {
        LastServed x = new LastServed();
        Check.text(x, text);
        Check.due("fault(1) of '" + text + "'", x.fault(1), fault);
        Check.due("laws of '" + text + "' are there", x.laws() != NONE, fault == NONE);
        Check.due("bytes behind laws of '" + text + "'", x.count(9), fault == NONE ? 0 : text.length());
    }

    private static void faultsOfTowns() {
        String counter = "counter 0 1 1;";
        String sort = "sort a 1 1 1 1 1 1;";
        town("", 0);
        town("  \n ", 4);
        town(counter + sort, NONE);
        town(sort + counter, NONE);
        town("counter 0\n1\n1 ;\n\nsort a 1 1 1 1 1 1 ;  ", NONE);
        town("counter0 1 1;sort a1 1 1 1 1 1;", NONE);
        town(counter, 14);
        town(sort, 19);
        town(sort + "  ", 21);
        town(counter + sort + counter + counter, NONE);
        town(counter + sort + counter + counter + " counter", 62);
        town(counter + sort + "sort b 1 1 1 1 1 1;sort c 1 1 1 1 1 1;sort d 1 1 1 1 1 1;sort e 1 1 1 1 1 1;", NONE);
        town(counter + sort + "sort b 1 1 1 1 1 1;sort c 1 1 1 1 1 1;sort d 1 1 1 1 1 1;sort e 1 1 1 1 1 1;sort f", 109);
        town("close 10; close 10;", 10);
        town("fee 0; bow 0; fee 0;", 14);
        town("bow 0; bow 0;", 7);
        town("counter 0 1 1", 13);
        town("counter 0 1", 11);
        town("counter", 7);
        town("counter 0 1 1 1;", 14);
        town("counter 0 1;", 11);
        town("counter a 1 1;", 8);
        town("counters 0 1 1;", 0);
        town("Counter 0 1 1;", 0);
        town("cOunter 0 1 1;", 0);
        town("counter 0, 1 1;", 9);
        town("counter 0\t1 1;", 9);
        town("counter -1 1 1;", 8);
        town("counter 0 1 1;;", 14);
        town("law least 1;", 0);
        town("a ?", 0);
        town("counter ? 1", 8);
        town(counter + sort + "?", 33);
        StringBuilder full = new StringBuilder(counter + sort);
        while (full.length() < 493) {
            full.append(' ');
        }
        town(full + "counter", 500);
        town(full + "      ;", 499);
        town(full + "fee 12;", NONE);
    }

    private static void number(String ahead, String behind, int low, int high) {
        town(ahead + low + behind, NONE);
        town(ahead + high + behind, NONE);
        town(ahead + "000" + high + behind, NONE);
        town(ahead + (high + 1) + behind, ahead.length());
        town(ahead + "99999999999999999999" + behind, ahead.length());
        town(ahead + "4294967297" + behind, ahead.length());
        if (low > 0) {
            town(ahead + (low - 1) + behind, ahead.length());
        }
    }

    private static void numbersOfTowns() {
        String sort = "sort a 1 1 1 1 1 1;";
        String counter = "counter 0 1 1;";
        number(sort + "counter ", " 1 1;", 0, 8);
        number(sort + "counter 0 ", " 1;", 1, 9);
        number(sort + "counter 0 1 ", ";", 0, 99);
        number(counter + "sort a ", " 1 1 1 1 1;", 0, 16);
        number(counter + "sort a 1 ", " 1 1 1 1;", 0, 99);
        number(counter + "sort a 1 1 ", " 1 1 1;", 1, 240);
        number(counter + "sort a 1 1 1 ", " 1 1;", 0, 9);
        number(counter + "sort a 1 1 1 1 ", " 1;", 0, 9);
        number(counter + "sort a 1 1 1 1 1 ", ";", 0, 2);
        number(counter + sort + "close ", ";", 10, 240);
        number(counter + sort + "fee ", ";", 0, 99);
        number(counter + sort + "bow ", ";", 0, 9);
    }

    private static void namesOfSorts() {
        String counter = "counter 0 1 1;";
        String rest = " 1 1 1 1 1 1;";
        for (String kept : new String[] {"counter", "sort", "close", "fee", "bow"}) {
            town(counter + "sort " + kept + rest, 19);
        }
        town(counter + "sort abcdefgh" + rest, NONE);
        town(counter + "sort abcdefghi" + rest, 19);
        town(counter + "sort law" + rest, NONE);
        town(counter + "sort fees" + rest, NONE);
        town(counter + "sort fe" + rest, NONE);
        town(counter + "sort 1" + rest, 19);
        town(counter + "sort ;" + rest, 19);
        town(counter + "sort a" + rest + "sort a" + rest, 38);
        town(counter + "sort a" + rest + "sort b" + rest, NONE);
        town(counter + "sort a" + rest + "sort aa" + rest, NONE);
        town(counter + "sort ab" + rest + "sort a" + rest, NONE);
        town(counter + "sort ab" + rest + "sort b" + rest + "sort ab" + rest, 58);
    }

    private static void faultsOfLaws() {
        laws("", 0);
        laws(" ", 1);
        laws("law least 1;", NONE);
        laws("law most 1;law least 2;law most 3;law least 4;law most 5;", NONE);
        laws("law most 1;law least 2;law most 3;law least 4;law most 5; law", 58);
        laws("law", 3);
        laws("law least", 9);
        laws("law least ;", 10);
        laws("law less 1;", 4);
        laws("law law", 4);
        laws("least 1;", 0);
        laws("law least 1", 11);
        laws("law least 1;;", 12);
        laws("law least 1 2;", 12);
        laws("law least 1+;", 12);
        laws("law least +1;", 10);
        laws("law least -1;", 10);
        laws("law least 1--1;", 12);
        laws("law least 1*;", 12);
        laws("law least 1<2;", 11);
        laws("law least 1=2;", 11);
        laws("law least 9999;", NONE);
        laws("law least 10000;", 10);
        laws("law least 99999999999999;", 10);
        laws("law least 0009999;", NONE);
        laws("law least came+wait-sort*worth+ahead-behind*many+minute-left*turns;", NONE);
        laws("law least cam;", 10);
        laws("law least cames;", 10);
        laws("law least close;", 10);
        laws("law least law;", 10);
        laws("law least 1?;", 11);
        laws("law least 1 + ? ;", 14);
        laws("counter 0 1 1;", 0);
    }

    private static void bracketsOfLaws() {
        laws("law least (1);", NONE);
        laws("law least (1<2);", NONE);
        laws("law least (1+2=2*3);", NONE);
        laws("law least (1<2<3);", 14);
        laws("law least (1<2=3);", 14);
        laws("law least ((1<2)<3);", NONE);
        laws("law least (1;", 12);
        laws("law least (1", 12);
        laws("law least (1<;", 13);
        laws("law least (1<2;", 14);
        laws("law least ();", 11);
        laws("law least (<1);", 11);
        laws("law least 1);", 11);
        laws("law least (1)) ;", 13);
        laws("law least ((((((((1))))))));", NONE);
        laws("law least (((((((((1)))))))));", 18);
        laws("law least ((((((((1))))))))*((((((((2))))))));", NONE);
        laws("law least ((((((((1)))))))*((((((((2)))))))));", 34);
        laws("law least ((((((((1<(2))))))));", 20);
    }
}
