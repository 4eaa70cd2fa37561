/** Promises 5, 7, 8 and 32: town, counter, sort, count, as far as a town tells them. */
public final class TownTest {
    private static final int NONE = LastServed.NONE;
    private static final int VOID = LastServed.VOID;
    private static final String TOWN = "counter 3 4 55; sort ab 7 66 222 8 9 2; fee 33; counter 8 9 0;"
        + "bow 4; sort b 0 0 1 0 0 0; close 77;";

    public static void main(String[] args) {
        factsAreTold();
        usualOnesWithoutBeingTold();
        aNewTownBeginsAnew();
        aFaultLeavesTheTown();
        Check.close("TownTest");
    }

    private static void row(LastServed x, String of, int number, int... facts) {
        for (int what = 0; what < facts.length; what++) {
            int got = of.equals("counter") ? x.counter(number, what) : x.sort(number, what);
            Check.due(of + "(" + number + ", " + what + ")", got, facts[what]);
        }
    }

    private static void counts(LastServed x, int... counts) {
        for (int what = 0; what < counts.length; what++) {
            Check.due("count(" + what + ")", x.count(what), counts[what]);
        }
    }

    private static void factsAreTold() {
        LastServed x = new LastServed();
        Check.text(x, TOWN);
        Check.due("town()", x.town(), 2);
        row(x, "counter", 0, 3, 4, 55, 0, 0, NONE);
        row(x, "counter", 1, 8, 9, 0, 0, 0, NONE);
        row(x, "counter", 2, NONE, NONE, NONE, NONE, NONE);
        row(x, "sort", 0, 7, 66, 222, 8, 9, 2, VOID, VOID, VOID, VOID, 0, 0, 0, 0, 0, 0, 0, VOID, VOID);
        row(x, "sort", 1, 0, 0, 1, 0, 0, 0, VOID);
        row(x, "sort", 2, VOID, VOID, VOID, VOID, VOID, VOID);
        Check.due("sort(2, 10)", x.sort(2, 10), VOID);
        Check.due("counter(-1, 0)", x.counter(-1, 0), NONE);
        Check.due("counter(0, -1)", x.counter(0, -1), NONE);
        Check.due("sort(-1, 0)", x.sort(-1, 0), VOID);
        Check.due("sort(0, -1)", x.sort(0, -1), VOID);
        counts(x, 2, 2, 0, 77, 33, 4, 0, 0, 0, 0, NONE);
        Check.due("count(-1)", x.count(-1), NONE);
    }

    private static void usualOnesWithoutBeingTold() {
        LastServed x = Check.withTown("counter 0 1 1; sort a 0 1 1 1 1 1;");
        counts(x, 1, 1, 0, 120, 0, 0, 0, 0, 0, 0);
    }

    private static void aNewTownBeginsAnew() {
        LastServed x = Check.withTown("counter 0 1 9; sort a 16 1 99 1 1 0; fee 3; bow 2; close 50;");
        Check.tellLaws(x, "law least 1; law most 2;");
        x.seed(77);
        x.comer(1, 1);
        x.go(3);
        Check.due("come", x.come(0, 0) >= 0, true);
        x.image(1);
        Check.due("book has entries", x.book(NONE, 0), 3);
        Check.text(x, "counter 1 2 7; sort z 8 5 6 7 8 1;");
        Check.due("town()", x.town(), 1);
        counts(x, 1, 1, 0, 120, 0, 0, 2, 0, 1, 0);
        row(x, "counter", 0, 1, 2, 7, 0, 0);
        row(x, "sort", 0, 8, 5, 6, 7, 8, 1, VOID, VOID, VOID, VOID, 0, 0, 0, 0, 0, 0, 0, VOID);
        Check.due("book", x.book(NONE, 0), 0);
        Check.due("person(0, 0)", x.person(0, 0), NONE);
        Check.due("on(1)", x.on(1), false);
        // from x = 0 on: 12345 / 256 = 48, rest by 16 is 0, which is below 8
        x.go(1);
        Check.due("lots go from 0 on", x.sort(0, 10), 1);
    }

    private static void aFaultLeavesTheTown() {
        LastServed x = Check.withTown(TOWN);
        x.come(0, 0);
        Check.text(x, "counter 0 1 1; sort a 0 1 1 1 1;");
        Check.due("town with a fault", x.town(), NONE);
        Check.due("fault", x.fault(0), 31);
        counts(x, 2, 2, 0, 77, 33, 4, 0, 1, 0, 32);
        row(x, "counter", 0, 3, 4, 55, 1, 0, NONE);
        row(x, "sort", 0, 7, 66, 222, 8, 9, 2, VOID);
    }
}
