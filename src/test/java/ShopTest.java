/** Promises 7 to 16: the shop by hand and by lots. */
public final class ShopTest {
    private static final int NONE = LastServed.NONE;
    private static final int VOID = LastServed.VOID;

    public static void main(String[] args) {
        comingByHand();
        thirtyAreThere();
        numbersAreTakenAnew();
        turningWithBows();
        turningWithoutBows();
        leaving();
        factsOfPeople();
        minutesAreCounted();
        servingTakesItsMinutes();
        stockRunsOut();
        patienceEnds();
        closingSendsAllAway();
        costsOfMinutes();
        waitsAndUnlike();
        lotsDecideWhoComes();
        lotsDecideWhoIsServed();
        toTheEmptiestCounter();
        wayTwoWaitsOutside();
        thoseOutsideComeInByNumbers();
        wayOneTurns();
        seeds();
        Check.close("ShopTest");
    }

    private static void comingByHand() {
        LastServed x = Check.withTown("counter 0 1 0; counter 0 1 0; sort a 0 9 99 0 0 2; fee 4; close 10;");
        Check.due("come", x.come(0, 1), 0);
        Check.due("come of way 2 goes in by hand", x.come(0, 1), 1);
        Check.due("inside(1, 0)", x.inside(1, 0), 0);
        Check.due("inside(1, 1)", x.inside(1, 1), 1);
        Check.due("inside(1, 2)", x.inside(1, 2), NONE);
        Check.due("inside(1, -1)", x.inside(1, -1), NONE);
        Check.due("inside(0, 0)", x.inside(0, 0), NONE);
        Check.due("inside(2, 0)", x.inside(2, 0), NONE);
        Check.due("inside(-1, 0)", x.inside(-1, 0), NONE);
        Check.due("counter(1, 3)", x.counter(1, 3), 2);
        Check.due("CAME", x.sort(0, 10), 2);
        Check.due("GAINED", x.sort(0, 16), -8);
        Check.due("no such sort", x.come(1, 0), NONE);
        Check.due("no such sort", x.come(-1, 0), NONE);
        Check.due("no such counter", x.come(0, 2), NONE);
        Check.due("no such counter", x.come(0, -1), NONE);
        Check.due("many are there", x.count(7), 2);
        x.go(9);
        Check.due("come a minute ahead of closing", x.come(0, 0), 2);
        x.go(1);
        Check.due("come as it is closed", x.come(0, 0), NONE);
        Check.due("CAME", x.sort(0, 10), 3);
    }

    private static void thirtyAreThere() {
        LastServed x = Check.withTown("counter 0 1 0; sort a 16 9 99 0 0 0; sort b 16 9 99 0 0 2;");
        for (int k = 0; k < 30; k++) {
            Check.due("come " + k, x.come(k % 2, 0), k);
        }
        Check.due("come with 30 there", x.come(0, 0), NONE);
        Check.due("CAME", x.sort(0, 10), 15);
        x.go(5);
        Check.due("no room for those who come by lot", x.sort(0, 10) + x.sort(1, 10), 30);
        Check.due("many are there", x.count(7), 30);
        x.leave(29);
        x.go(1);
        Check.due("room for one", x.sort(0, 10), 16);
        Check.due("room for one alone", x.sort(1, 10), 15);
    }

    private static void numbersAreTakenAnew() {
        LastServed x = Check.withTown("counter 0 1 0; sort a 0 9 99 0 0 0;");
        for (int k = 0; k < 5; k++) {
            x.come(0, 0);
        }
        x.leave(3);
        x.leave(1);
        Check.due("the least free", x.come(0, 0), 1);
        Check.due("the next free", x.come(0, 0), 3);
        Check.due("then behind all", x.come(0, 0), 5);
        int[] order = {0, 2, 4, 1, 3, 5};
        for (int k = 0; k < order.length; k++) {
            Check.due("inside(0, " + k + ")", x.inside(0, k), order[k]);
            Check.due("place", x.person(order[k], 6), k);
        }
    }

    private static void turningWithBows() {
        LastServed x = Check.withTown("counter 0 1 0; sort a 0 9 99 1 5 0; fee 3; bow 2;");
        x.come(0, 0);
        x.come(0, 0);
        Check.due("turn", x.turn(0), true);
        Check.due("state", x.person(0, 2), 1);
        Check.due("till when", x.person(0, 7), 2);
        Check.due("turns", x.person(0, 5), 1);
        Check.due("place", x.person(0, 6), NONE);
        Check.due("last in", x.person(0, 4), 0);
        Check.due("turn while bowing", x.turn(0), false);
        Check.due("turns", x.person(0, 5), 1);
        Check.due("GAINED", x.sort(0, 16), -6);
        x.go(2);
        Check.due("still bowing", x.person(0, 2), 1);
        Check.due("GAINED", x.sort(0, 16), -18);
        x.go(1);
        Check.due("in again", x.person(0, 2), 0);
        Check.due("till when", x.person(0, 7), NONE);
        Check.due("last in", x.person(0, 4), 2);
        Check.due("at first", x.person(0, 3), 0);
        Check.due("place", x.person(0, 6), 1);
        Check.due("GAINED", x.sort(0, 16), -23);
        Check.due("turn of the last one", x.turn(0), true);
        Check.due("turns", x.person(0, 5), 2);
    }

    private static void turningWithoutBows() {
        LastServed x = Check.withTown("counter 0 1 0; sort a 0 9 99 1 5 0; fee 3;");
        x.come(0, 0);
        x.come(0, 0);
        x.go(1);
        Check.due("turn", x.turn(0), true);
        Check.due("state", x.person(0, 2), 0);
        Check.due("place", x.person(0, 6), 1);
        Check.due("last in", x.person(0, 4), 1);
        Check.due("turns", x.person(0, 5), 1);
        Check.due("till when", x.person(0, 7), NONE);
        Check.due("GAINED", x.sort(0, 16), -11);
        Check.due("turn of nobody", x.turn(2), false);
        Check.due("turn(-1)", x.turn(-1), false);
        Check.due("turn(30)", x.turn(30), false);
    }

    private static void leaving() {
        LastServed x = Check.withTown("counter 0 1 0; sort a 0 9 99 1 5 0; bow 3;");
        x.come(0, 0);
        x.come(0, 0);
        x.come(0, 0);
        x.turn(2);
        Check.due("leave", x.leave(1), true);
        Check.due("leave again", x.leave(1), false);
        Check.due("leave while bowing", x.leave(2), true);
        Check.due("UP", x.sort(0, 12), 2);
        Check.due("many are there", x.count(7), 1);
        Check.due("inside", x.counter(0, 3), 1);
        Check.due("person(1, 0)", x.person(1, 0), NONE);
        Check.due("leave(-1)", x.leave(-1), false);
        Check.due("leave(30)", x.leave(30), false);
    }

    private static void factsOfPeople() {
        LastServed x = Check.withTown("counter 0 1 0; counter 0 1 0; sort a 0 9 99 1 5 0; sort b 0 9 99 1 5 0;");
        x.go(4);
        x.come(1, 1);
        int[] facts = {1, 1, 0, 4, 4, 0, 0, NONE, NONE};
        for (int what = 0; what < facts.length; what++) {
            Check.due("person(0, " + what + ")", x.person(0, what), facts[what]);
        }
        Check.due("person(0, -1)", x.person(0, -1), NONE);
        Check.due("person(1, 0)", x.person(1, 0), NONE);
        Check.due("person(-1, 0)", x.person(-1, 0), NONE);
        Check.due("person(30, 0)", x.person(30, 0), NONE);
    }

    private static void minutesAreCounted() {
        LastServed x = Check.withTown("counter 0 1 0; sort a 0 9 99 1 5 0; close 30;");
        Check.due("go(0)", x.go(0), NONE);
        Check.due("go(-1)", x.go(-1), NONE);
        Check.due("go(241)", x.go(241), NONE);
        Check.due("MINUTE", x.count(2), 0);
        Check.due("go(1)", x.go(1), 1);
        Check.due("go(28)", x.go(28), 29);
        Check.due("go(240)", x.go(240), 30);
        Check.due("go(1) behind closing", x.go(1), 30);
        Check.due("MINUTE", x.count(2), 30);
    }

    private static void servingTakesItsMinutes() {
        LastServed x = Check.withTown("counter 1 3 9; sort a 0 9 99 0 0 0;");
        for (int k = 0; k < 4; k++) {
            x.come(0, 0);
        }
        Check.due("busy at first", x.counter(0, 4), 0);
        x.go(1);
        Check.due("busy till", x.counter(0, 4), 3);
        Check.due("the last is served", x.person(3, 0), NONE);
        Check.due("STOCK", x.counter(0, 2), 8);
        Check.due("SERVED", x.sort(0, 11), 1);
        x.go(2);
        Check.due("SERVED while busy", x.sort(0, 11), 1);
        x.go(1);
        Check.due("SERVED", x.sort(0, 11), 2);
        Check.due("busy till", x.counter(0, 4), 6);
        Check.due("waits together", x.sort(0, 13), 3);
        Check.due("GAINED", x.sort(0, 16), 18);
    }

    private static void stockRunsOut() {
        LastServed x = Check.withTown("counter 0 1 2; sort a 0 9 99 0 0 0; close 20;");
        for (int k = 0; k < 4; k++) {
            x.come(0, 0);
        }
        x.go(10);
        Check.due("SERVED", x.sort(0, 11), 2);
        Check.due("STOCK", x.counter(0, 2), 0);
        Check.due("INSIDE", x.counter(0, 3), 2);
        Check.due("busy till", x.counter(0, 4), 2);
    }

    private static void patienceEnds() {
        LastServed x = Check.withTown("counter 0 1 0; sort a 0 9 3 2 5 0; bow 9;");
        x.come(0, 0);
        x.go(1);
        x.come(0, 0);
        x.turn(0);
        x.go(1);
        Check.due("both there", x.count(7), 2);
        Check.due("GAINED", x.sort(0, 16), -9);
        x.go(1);
        Check.due("one gave UP, also outside", x.sort(0, 12), 1);
        Check.due("who", x.person(0, 0), NONE);
        Check.due("who gives up pays nothing more", x.sort(0, 16), -11);
        x.go(1);
        Check.due("both gave UP", x.sort(0, 12), 2);
        Check.due("GAINED", x.sort(0, 16), -11);
    }

    private static void closingSendsAllAway() {
        LastServed x = Check.withTown("counter 0 9 9; sort a 0 9 99 1 1 0; close 10; bow 9;");
        x.go(8);
        x.come(0, 0);
        x.come(0, 0);
        x.come(0, 0);
        x.turn(2);
        x.go(1);
        Check.due("two are there", x.count(7), 2);
        Check.due("GAINED", x.sort(0, 16), 7);
        x.go(1);
        Check.due("nobody is there", x.count(7), 0);
        Check.due("UP", x.sort(0, 12), 2);
        Check.due("SERVED", x.sort(0, 11), 1);
        Check.due("GAINED", x.sort(0, 16), 7);
        Check.due("INSIDE", x.counter(0, 3), 0);
    }

    private static void costsOfMinutes() {
        LastServed x = Check.withTown("counter 0 1 0; sort a 0 9 99 3 7 0; sort b 0 9 99 2 0 0; bow 5;");
        x.come(0, 0);
        x.come(0, 0);
        x.come(1, 0);
        x.turn(1);
        x.go(4);
        Check.due("GAINED of a", x.sort(0, 16), -40);
        Check.due("GAINED of b", x.sort(1, 16), -8);
    }

    private static void waitsAndUnlike() {
        LastServed x = Check.withTown("counter 0 4 99; sort a 0 9 99 0 0 0; sort b 0 9 99 0 0 0;");
        for (int k = 0; k < 3; k++) {
            x.come(0, 0);
        }
        Check.due("UNLIKE without SERVED", x.sort(0, 17), VOID);
        x.go(1);
        Check.due("UNLIKE of one", x.sort(0, 17), 0);
        x.go(20);
        Check.due("waits 0, 4, 8 together", x.sort(0, 13), 12);
        Check.due("squares", x.sort(0, 14), 80);
        Check.due("longest", x.sort(0, 15), 8);
        Check.due("UNLIKE", x.sort(0, 17), 10);
        Check.due("UNLIKE of the other sort", x.sort(1, 17), VOID);
        Check.due("longest of the other sort", x.sort(1, 15), 0);
    }

    /** The lots as the document tells them. */
    private static int lot(long[] x, int below) {
        x[0] = (x[0] * 1103515245L + 12345L) & 0x7fffffffL;
        return (int) (x[0] / 256 % below);
    }

    private static void lotsDecideWhoComes() {
        int[] chances = {0, 5, 16};
        LastServed x = Check.withTown("counter 0 1 99; sort a 0 1 9 0 0 0; sort b 5 1 9 0 0 0; sort c 16 1 9 0 0 0;");
        x.seed(31337);
        long[] seed = {31337};
        int[] came = new int[3];
        for (int minute = 0; minute < 60; minute++) {
            for (int sort = 0; sort < 3; sort++) {
                came[sort] += lot(seed, 16) < chances[sort] ? 1 : 0;
            }
            x.go(1);
            for (int sort = 0; sort < 3; sort++) {
                Check.due("CAME of " + sort + " in minute " + minute, x.sort(sort, 10), came[sort]);
            }
        }
    }

    private static void lotsDecideWhoIsServed() {
        LastServed x = Check.withTown("counter 3 1 99; sort a 0 1 240 0 0 0; close 240;");
        x.seed(1000000);
        for (int k = 0; k < 30; k++) {
            x.come(0, 0);
        }
        long[] seed = {1000000};
        for (int many = 30; many > 0; many--) {
            lot(seed, 16);
            int place = lot(seed, many);
            int who = x.inside(0, place);
            x.go(1);
            Check.due("who is gone of " + many, x.person(who, 0), NONE);
            Check.due("INSIDE", x.counter(0, 3), many - 1);
        }
    }

    private static void toTheEmptiestCounter() {
        LastServed x = Check.withTown("counter 0 1 0; counter 0 1 0; counter 0 1 0; sort a 16 1 99 0 0 0;");
        x.come(0, 0);
        x.come(0, 0);
        x.come(0, 1);
        x.go(1);
        Check.due("to the one with fewest", x.person(3, 1), 2);
        x.go(1);
        Check.due("of like ones the least", x.person(4, 1), 1);
        x.go(1);
        Check.due("again to the one with fewest", x.person(5, 1), 2);
        x.go(1);
        Check.due("of three like ones the least", x.person(6, 1), 0);
    }

    private static void wayTwoWaitsOutside() {
        LastServed x = Check.withTown("counter 0 2 99; sort a 16 1 99 1 4 2; fee 5;");
        x.go(1);
        Check.due("the first one goes in and is served", x.sort(0, 11), 1);
        Check.due("the fee", x.sort(0, 16), -4);
        x.go(1);
        Check.due("in, while it is busy", x.person(0, 2), 0);
        Check.due("GAINED", x.sort(0, 16), -10);
        Check.due("busy till", x.counter(0, 4), 2);
        x.go(1);
        Check.due("the next waits outside", x.person(1, 2), 2);
        Check.due("never in", x.person(1, 4), NONE);
        Check.due("place", x.person(1, 6), NONE);
        Check.due("bowing till", x.person(1, 7), NONE);
        Check.due("when at first", x.person(1, 3), 2);
        Check.due("turn while waiting", x.turn(1), false);
        Check.due("no fee outside, but the minute", x.sort(0, 16), -13);
        Check.due("CAME", x.sort(0, 10), 3);
        x.go(1);
        Check.due("the new one goes in, ahead of those who wait", x.person(0, 2), 0);
        Check.due("still waiting", x.person(1, 2), 2);
    }

    private static void thoseOutsideComeInByNumbers() {
        LastServed x = Check.withTown("counter 0 1 0; sort a 16 1 99 0 0 2; bow 1;");
        x.come(0, 0);
        x.go(1);
        Check.due("1 waits outside", x.person(1, 2), 2);
        x.go(1);
        Check.due("2 waits outside", x.person(2, 2), 2);
        x.leave(0);
        x.go(1);
        Check.due("a new one is in at once", x.person(0, 2), 0);
        Check.due("so 1 waits on", x.person(1, 2), 2);
        x.turn(0);
        x.come(0, 0);
        x.go(1);
        Check.due("who bows till 4 isn't in yet", x.person(0, 2), 1);
        x.go(1);
        Check.due("who bowed comes in, though somebody is inside", x.person(0, 2), 0);
        Check.due("last", x.person(0, 6), 1);

        LastServed y = Check.withTown("counter 0 1 0; sort a 0 1 99 0 0 0; sort b 9 1 99 0 0 2; bow 3;");
        long[] seed = {5};
        y.seed(5);
        int minutes = 0;
        y.come(0, 0);
        while (y.count(7) < 4 && minutes < 50) {
            y.go(1);
            minutes++;
        }
        Check.due("three wait outside", y.person(1, 2) + y.person(2, 2) + y.person(3, 2), 6);
        y.turn(0);
        // nobody is inside now: the least of those who wait comes in, if no new one comes ahead of that
        for (int k = 0; k < 2 * minutes; k++) {
            lot(seed, 16);
        }
        lot(seed, 16);
        boolean newOne = lot(seed, 16) < 9;
        y.go(1);
        Check.due("the first inside", y.inside(0, 0), newOne ? 4 : 1);
        Check.due("one alone", y.counter(0, 3), 1);
    }

    private static void wayOneTurns() {
        LastServed x = Check.withTown("counter 0 1 0; sort a 0 1 99 0 0 1; bow 2; fee 1;");
        x.come(0, 0);
        x.go(1);
        Check.due("who is alone is the last and stays", x.person(0, 5), 0);
        x.come(0, 0);
        x.come(0, 0);
        x.go(1);
        Check.due("0 bows", x.person(0, 7), 3);
        Check.due("1 bows", x.person(1, 7), 3);
        Check.due("2 is the last and stays", x.person(2, 2), 0);
        x.go(1);
        Check.due("2 stays alone", x.person(2, 6), 0);
        x.go(1);
        // 0 and 1 came in; then 0 and 2 aren't the last
        Check.due("0 bows again", x.person(0, 7), 5);
        Check.due("1 is the last", x.person(1, 6), 0);
        Check.due("2 bows", x.person(2, 7), 5);
        Check.due("turns", x.person(0, 5), 2);
        Check.due("fees", x.sort(0, 16), -5);

        LastServed y = Check.withTown("counter 0 1 0; sort a 0 1 99 0 0 1; sort b 0 1 99 0 0 0;");
        y.come(0, 0);
        y.come(0, 0);
        y.come(1, 0);
        y.come(0, 0);
        y.go(1);
        int[] order = {2, 0, 1, 3};
        for (int k = 0; k < order.length; k++) {
            Check.due("one after another, place " + k, y.inside(0, k), order[k]);
        }
        Check.due("3 wasn't the last any more", y.person(3, 5), 1);
        Check.due("of way 0 nobody turns", y.person(2, 5), 0);
    }

    private static void seeds() {
        LastServed x = Check.withTown("counter 0 1 99; sort a 8 1 9 0 0 0;");
        Check.due("seed(-1)", x.seed(-1), false);
        Check.due("seed(1000001)", x.seed(1000001), false);
        Check.due("seed(0)", x.seed(0), true);
        Check.due("seed(1000000)", x.seed(1000000), true);
        Check.due("a refused seed", x.seed(1000001), false);
        long[] seed = {1000000};
        int came = 0;
        for (int k = 0; k < 100; k++) {
            came += lot(seed, 16) < 8 ? 1 : 0;
        }
        x.go(100);
        Check.due("CAME", x.sort(0, 10), came);
    }
}
