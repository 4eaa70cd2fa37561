/** Promises 22 and 23: book and judge. */
public final class BookTest {
    private static final int NONE = LastServed.NONE;

    public static void main(String[] args) {
        entriesAreWritten();
        theLatestTwentyStay();
        judged();
        others();
        Check.close("BookTest");
    }

    private static void entry(LastServed x, int k, int... facts) {
        for (int what = 0; what < facts.length; what++) {
            Check.due("book(" + k + ", " + what + ")", x.book(k, what), facts[what]);
        }
    }

    private static void entriesAreWritten() {
        LastServed x = Check.withTown("counter 1 2 9; counter 0 1 9; sort a 0 9 99 0 0 0;");
        Check.due("an empty book", x.book(NONE, 0), 0);
        x.come(0, 0);
        x.come(0, 0);
        x.come(0, 1);
        x.come(0, 0);
        x.come(0, 1);
        x.go(3);
        Check.due("entries", x.book(NONE, 0), 4);
        entry(x, 0, 0, 0, 3, 3, 2);
        entry(x, 1, 0, 1, 2, 2, 0);
        entry(x, 2, 1, 1, 4, 1, 0);
        entry(x, 3, 2, 0, 1, 2, 1);
        entry(x, 4, NONE, NONE, NONE, NONE, NONE);
        x.leave(0);
        Check.due("who leaves isn't in the book", x.book(NONE, 0), 4);
    }

    private static void theLatestTwentyStay() {
        LastServed x = Check.withTown("counter 0 1 99; sort a 0 9 99 0 0 0;");
        for (int k = 0; k < 27; k++) {
            x.come(0, 0);
        }
        x.go(20);
        Check.due("entries", x.book(NONE, 0), 20);
        entry(x, 0, 0, 0, 0, 27, 0);
        x.go(5);
        Check.due("entries", x.book(NONE, 0), 20);
        entry(x, 0, 5, 0, 5, 22, 0);
        entry(x, 19, 24, 0, 24, 3, 0);
        entry(x, 20, NONE, NONE);
        Check.due("judged by LAST", x.judge(0, 1), 20);
    }

    private static void judged() {
        LastServed x = Check.withTown("counter 1 1 9; counter 2 1 9; counter 0 1 9; sort a 0 9 99 0 0 0;");
        for (int counter = 0; counter < 2; counter++) {
            for (int k = 0; k < 4; k++) {
                x.come(0, counter);
            }
        }
        x.go(4);
        // LAST took places 3 of 4, 2 of 3, 1 of 2, 0 of 1
        Check.due("LAST by FIRST", x.judge(0, 0), 3);
        Check.due("LAST by LAST", x.judge(0, 1), 0);
        Check.due("LAST by MIDDLE", x.judge(0, 2), 2);
        // MIDDLE took places 2 of 4, 1 of 3, 1 of 2, 0 of 1
        Check.due("MIDDLE by FIRST", x.judge(1, 0), 3);
        Check.due("MIDDLE by LAST", x.judge(1, 1), 2);
        Check.due("MIDDLE by MIDDLE", x.judge(1, 2), 0);
        Check.due("a counter that served nobody", x.judge(2, 0), 0);
        Check.due("no such counter", x.judge(3, 0), NONE);
        Check.due("counter -1", x.judge(-1, 0), NONE);
        Check.due("law 3", x.judge(0, 3), NONE);
        Check.due("law 4", x.judge(0, 4), NONE);
        Check.due("law -1", x.judge(0, -1), NONE);
    }

    private static void others() {
        LastServed x = Check.withTown("counter 1 2 9; sort a 0 9 99 0 0 0;");
        x.come(0, 0);
        x.go(1);
        Check.due("book(0, -1)", x.book(0, -1), NONE);
        Check.due("book(0, 5)", x.book(0, 5), NONE);
        Check.due("book(-2, 0)", x.book(-2, 0), NONE);
        Check.due("book(1, 0)", x.book(1, 0), NONE);
        Check.due("book(-1, 3)", x.book(-1, 3), 1);
    }
}
