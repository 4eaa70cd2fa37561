/** Terms 3: each sentence that names an edge of the people, of a minute, of what is told of sorts, or of the lots. */
public final class ShopEdgesTest {
    private static final int NONE = LastServed.NONE;
    private static final int VOID = LastServed.VOID;
    private static final int IN = 0;
    private static final int BOWING = 1;
    private static final int WAITING = 2;

    public static void main(String[] args) {
        Sentences.holds("at most 30 PEOPLE at once", ShopEdgesTest::thirtyAtOnce);
        Sentences.holds("numbers are taken anew when they are free: the least", ShopEdgesTest::theLeastFree);
        Sentences.holds("Each is of a SORT, at a COUNTER, INSIDE (in the order in which they came in), or OUTSIDE: bowing"
            + " till a MINUTE, or waiting.", ShopEdgesTest::eachIsSomewhere);
        theyCome();
        theyComeInAndTurn();
        theyAreServed();
        theyGiveUp();
        toldOfASort();
        Sentences.holds("LOTS: x comes of a seed (0 .. 1000000)", ShopEdgesTest::lotsOfASeed);
        Sentences.holds("each time x becomes the lowest 31 bits of x * 1103515245 + 12345", ShopEdgesTest::lowestBits);
        Sentences.holds("a lot below n is x by 256 (cut), rest by n.", ShopEdgesTest::restByN);
        Check.close("ShopEdgesTest");
    }

    private static void theyCome() {
        Sentences.holds("a) if MINUTE is below T: of each SORT, by numbers", ShopEdgesTest::comingBelowT);
        Sentences.holds("a lot below 16: below A one comes", ShopEdgesTest::belowA);
        Sentences.holds("one comes (if there is room)", ShopEdgesTest::ifThereIsRoom);
        Sentences.holds("to the COUNTER with fewest INSIDE (of like ones the least)", ShopEdgesTest::fewestInside);
        Sentences.holds("WAYS 0, 1: in; WAY 2: waits OUTSIDE, if somebody is INSIDE there, else in.", ShopEdgesTest::ways);
    }

    private static void theyComeInAndTurn() {
        Sentences.holds("b) by numbers, who waits OUTSIDE with nobody INSIDE at the COUNTER comes in",
            ShopEdgesTest::whoWaitsComesIn);
        Sentences.holds("who bowed till now comes in.", ShopEdgesTest::whoBowedComesIn);
        Sentences.holds("c) by numbers, of WAY 1 each who is INSIDE and isn't the last there goes out (TURNS): a turn more",
            ShopEdgesTest::whoIsNotTheLast);
        Sentences.holds("bowing till B MINUTES later; with B 0 in again at once, last.", ShopEdgesTest::bowing);
    }

    private static void theyAreServed() {
        Sentences.holds("d) each COUNTER that isn't busy", ShopEdgesTest::notBusy);
        Sentences.holds("has STOCK and somebody INSIDE serves who is NEXT by its LAW", ShopEdgesTest::stockAndSomebody);
        Sentences.holds("d) each COUNTER that isn't busy, has STOCK and somebody INSIDE serves who is NEXT by its LAW",
            ShopEdgesTest::lotsOnlyToServe);
        Sentences.holds("who is gone, SERVED; STOCK is one less, and it is busy till S MINUTES later.",
            ShopEdgesTest::gonesAndStocks);
    }

    private static void theyGiveUp() {
        Sentences.holds("e) MINUTE is one more.", ShopEdgesTest::oneMore);
        Sentences.holds("By numbers, who has been there (since coming at first) for D MINUTES", ShopEdgesTest::patience);
        Sentences.holds("or if it is T now, gives UP and is gone", ShopEdgesTest::closing);
        Sentences.holds("each other one pays I INSIDE, O OUTSIDE.", ShopEdgesTest::eachOtherPays);
        Sentences.holds("Behind T nobody comes any more and nothing goes on.", ShopEdgesTest::behindT);
    }

    private static void toldOfASort() {
        Sentences.holds("Told of a SORT: CAME, SERVED, gave UP; WAITS of those SERVED (MINUTES from coming at first to"
            + " being served) together, their squares together, the longest", ShopEdgesTest::waitsAreTold);
        Sentences.holds("GAINED: W for each SERVED, less what minutes and FEES cost all of them (each coming in costs the"
            + " FEE, at first and behind each bow, too).", ShopEdgesTest::gained);
        Sentences.holds("UNLIKE of a SORT: SERVED times its squares less the square of its WAITS together, by the square"
            + " of SERVED (cut).", ShopEdgesTest::unlike);
    }

    private static LastServed shop(String town) {
        return Check.withTown(town);
    }

    private static void thirtyAtOnce() {
        LastServed x = shop("counter 0 1 0; counter 0 1 0; counter 0 1 0; sort a 0 1 240 0 0 0; bow 9; close 240;");
        for (int k = 0; k < 30; k++) {
            Check.due("come " + k, x.come(0, k % 3), k);
            Check.due("there", x.count(7), k + 1);
        }
        for (int counter = 0; counter < 3; counter++) {
            Check.due("a 31st", x.come(0, counter), NONE);
        }
        Check.due("CAME", x.sort(0, 10), 30);
        Check.due("GAINED", x.sort(0, 16), 0);
        // who is outside is there, too
        x.turn(0);
        x.turn(29);
        Check.due("a 31st with two outside", x.come(0, 0), NONE);
        Check.due("there", x.count(7), 30);
        x.leave(29);
        Check.due("there", x.count(7), 29);
        Check.due("a 30th again", x.come(0, 0), 29);
        Check.due("a 31st again", x.come(0, 0), NONE);
        LastServed y = shop("counter 0 1 0; sort a 16 1 240 0 0 2; close 240;");
        y.go(29);
        Check.due("29 by lots", y.count(7), 29);
        y.go(1);
        Check.due("30 by lots, 29 of them wait outside", y.count(7), 30);
        Check.due("INSIDE", y.counter(0, 3), 1);
        y.go(1);
        Check.due("no 31st by lots", y.count(7), 30);
        Check.due("CAME", y.sort(0, 10), 30);
        Check.due("no 31st by hand", y.come(0, 0), NONE);
        LastServed z = shop("counter 0 1 0; sort a 0 1 240 0 0 0;");
        for (int k = 0; k < 30; k++) {
            z.come(0, 0);
        }
        for (int k = 0; k < 30; k++) {
            Check.due("all 30 at one counter", z.inside(0, k), k);
        }
        Check.due("nobody at 30", z.inside(0, 30), NONE);
    }

    private static void theLeastFree() {
        LastServed x = shop("counter 0 1 0; sort a 0 1 240 0 0 0;");
        for (int k = 0; k < 30; k++) {
            x.come(0, 0);
        }
        int[] gone = {29, 0, 13, 7};
        int[] anew = {0, 7, 13, 29};
        for (int number : gone) {
            x.leave(number);
        }
        for (int number : anew) {
            Check.due("the least that is free", x.come(0, 0), number);
            Check.due("anew: no turns", x.person(number, 5), 0);
        }
        Check.due("none is free", x.come(0, 0), NONE);
        // free as one is served, and as one gives up
        LastServed y = shop("counter 0 9 9; sort a 0 1 3 0 0 0; sort b 0 1 99 0 0 0;");
        y.come(1, 0);
        y.come(0, 0);
        y.come(1, 0);
        y.go(1);
        Check.due("the number of one who was served", y.come(1, 0), 0);
        y.go(2);
        Check.due("the number of one who gave up", y.come(1, 0), 1);
        Check.due("behind all", y.come(1, 0), 3);
        // what was told of the one ahead isn't told of the new one
        LastServed z = shop("counter 0 1 0; counter 0 1 0; sort a 0 1 99 0 0 0; sort b 0 1 99 0 0 0; bow 9;");
        z.come(0, 0);
        z.turn(0);
        z.leave(0);
        z.go(3);
        z.come(1, 1);
        int[] facts = {1, 1, IN, 3, 3, 0, 0, NONE};
        for (int what = 0; what < facts.length; what++) {
            Check.due("person(0, " + what + ")", z.person(0, what), facts[what]);
        }
    }

    /** In every minute of a full day; each minute is asked of an object of its own, for the calls' sake. */
    private static void eachIsSomewhere() {
        int[] seen = new int[3];
        for (int minute = 0; minute <= 40; minute += 2) {
            LastServed x = shop("counter 1 4 20; counter 0 3 9; sort a 9 1 30 0 0 0; sort b 9 1 20 0 0 1;"
                + "sort c 9 1 25 0 0 2; bow 3; close 40;");
            x.seed(31337);
            if (minute > 0) {
                x.go(minute);
            }
            int there = 0;
            int inside = 0;
            for (int k = 0; k < 30; k++) {
                int state = x.person(k, 2);
                if (state == NONE) {
                    continue;
                }
                there++;
                seen[state]++;
                int counter = x.person(k, 1);
                int place = x.person(k, 6);
                inside += state == IN ? 1 : 0;
                Check.due("SORT", x.person(k, 0) >= 0 && x.person(k, 0) < 3, true);
                Check.due("COUNTER", counter == 0 || counter == 1, true);
                Check.due("who is at that place", place == NONE ? k : x.inside(counter, place), k);
                Check.due("INSIDE has a place", place != NONE, state == IN);
                Check.due("bowing has an end that isn't by", x.person(k, 7) >= minute, state == BOWING);
                Check.due("waiting was never in", x.person(k, 4) == NONE, state == WAITING);
                Check.due("came at first by now", x.person(k, 3) >= 0 && x.person(k, 3) < minute, true);
            }
            Check.due("how many are there", x.count(7), there);
            Check.due("how many INSIDE", x.counter(0, 3) + x.counter(1, 3), inside);
        }
        for (int state = 0; state < 3; state++) {
            Check.due("somebody was in state " + state, seen[state] > 0, true);
        }
    }

    private static void oneMore() {
        LastServed x = shop("counter 0 1 0; sort a 0 1 240 0 0 0; close 240;");
        for (int minute = 1; minute <= 240; minute++) {
            Check.due("go(1)", x.go(1), minute);
        }
        Check.due("go(1) at T", x.go(1), 240);
        Check.due("MINUTE", x.count(2), 240);
    }

    private static void comingBelowT() {
        for (int close : new int[] {10, 11, 240}) {
            LastServed x = shop("counter 0 1 99; sort a 16 1 1 0 0 0; sort b 16 1 1 0 0 0; close " + close + ";");
            x.go(close - 1);
            Check.due("CAME till T - 1", x.sort(0, 10), close - 1);
            x.go(1);
            Check.due("one comes in the MINUTE T - 1", x.sort(0, 10), close);
            Check.due("of each SORT", x.sort(1, 10), close);
            x.go(1);
            x.go(240);
            Check.due("nobody comes in the MINUTE T", x.sort(0, 10), close);
        }
        // by numbers: the first of the sorts has the least number and the place ahead
        LastServed x = shop("counter 0 1 0; sort a 16 1 9 0 0 0; sort b 16 1 9 0 0 0; sort c 16 1 9 0 0 0;"
            + "sort d 16 1 9 0 0 0; sort e 16 1 9 0 0 0;");
        x.go(1);
        for (int k = 0; k < 5; k++) {
            Check.due("SORT of " + k, x.person(k, 0), k);
            Check.due("place " + k, x.inside(0, k), k);
        }
    }

    private static void belowA() {
        for (int lot = 0; lot < 16; lot++) {
            int seed = Lots.seedOf(lot);
            for (int a = 0; a <= 16; a++) {
                LastServed x = shop("counter 0 1 0; sort a " + a + " 1 9 0 0 0;");
                x.seed(seed);
                x.go(1);
                Check.due("a lot of " + lot + " with A " + a, x.sort(0, 10), lot < a ? 1 : 0);
            }
        }
        for (int first = 0; first < 16; first += 3) {
            for (int second = 0; second < 16; second += 3) {
                LastServed x = shop("counter 0 1 0; sort a 6 1 9 0 0 0; sort b 6 1 9 0 0 0;");
                x.seed(Lots.seedOf(first, second));
                x.go(1);
                Check.due("the first sort's lot is the first", x.sort(0, 10), first < 6 ? 1 : 0);
                Check.due("the second sort's is the second", x.sort(1, 10), second < 6 ? 1 : 0);
            }
        }
        LastServed never = shop("counter 0 1 99; sort a 0 1 9 0 0 0; sort b 16 1 1 0 0 0; close 240;");
        never.go(240);
        Check.due("with A 0 nobody comes", never.sort(0, 10), 0);
        Check.due("with A 16 always", never.sort(1, 10), 240);
    }

    private static void ifThereIsRoom() {
        for (int there = 27; there <= 30; there++) {
            LastServed x = shop("counter 0 1 0; sort a 16 1 240 0 0 0; sort b 16 1 240 0 0 0; fee 1;");
            for (int k = 0; k < there; k++) {
                x.come(0, 0);
            }
            x.go(1);
            Check.due("there, of " + there, x.count(7), Math.min(30, there + 2));
            Check.due("CAME of a", x.sort(0, 10), Math.min(30, there + 1));
            Check.due("CAME of b", x.sort(1, 10), there + 2 <= 30 ? 1 : 0);
            Check.due("who doesn't come pays nothing", x.sort(0, 16) + x.sort(1, 16), -Math.min(30, there + 2));
            Check.due("who doesn't come doesn't give up", x.sort(0, 12) + x.sort(1, 12), 0);
        }
        // one who is served in a minute makes room in the next one, not in this one
        LastServed y = shop("counter 0 1 99; sort a 16 1 240 0 0 0;");
        for (int k = 0; k < 30; k++) {
            y.come(0, 0);
        }
        y.go(1);
        Check.due("CAME as 30 were there", y.sort(0, 10), 30);
        y.go(1);
        Check.due("CAME as 29 were there", y.sort(0, 10), 31);
    }

    private static void fewestInside() {
        int[][] inside = {{0, 0, 0}, {1, 0, 0}, {1, 1, 0}, {1, 1, 1}, {2, 1, 1}, {2, 2, 1}, {2, 1, 2}, {0, 1, 0}, {9, 9, 8}};
        int[] to = {0, 1, 2, 0, 1, 2, 1, 0, 2};
        for (int k = 0; k < inside.length; k++) {
            LastServed x = shop("counter 0 1 0; counter 0 1 0; counter 0 1 0; sort a 16 1 240 0 0 0; bow 9;");
            int there = 0;
            for (int counter = 0; counter < 3; counter++) {
                for (int one = 0; one < inside[k][counter]; one++) {
                    x.come(0, counter);
                    there++;
                }
            }
            x.go(1);
            Check.due("to which of row " + k, x.person(there, 1), to[k]);
        }
        // who is outside isn't counted
        LastServed y = shop("counter 0 1 0; counter 0 1 0; sort a 16 1 240 0 0 0; bow 9;");
        y.come(0, 0);
        y.come(0, 0);
        y.come(0, 1);
        y.turn(0);
        y.turn(1);
        y.go(1);
        Check.due("to the one with two outside", y.person(3, 1), 0);
        LastServed one = shop("counter 0 1 0; sort a 16 1 240 0 0 0;");
        one.come(0, 0);
        one.go(1);
        Check.due("to the only one", one.person(1, 1), 0);
    }

    private static void ways() {
        for (int way = 0; way <= 2; way++) {
            for (int inside = 0; inside <= 2; inside++) {
                LastServed x = shop("counter 0 1 0; sort a 16 1 240 0 0 " + way + "; sort b 0 1 240 0 0 0; fee 3;");
                for (int k = 0; k < inside; k++) {
                    x.come(1, 0);
                }
                x.go(1);
                boolean waits = way == 2 && inside > 0;
                Check.due("way " + way + " with " + inside, x.person(inside, 2), waits ? WAITING : IN);
                Check.due("last in", x.person(inside, 4), waits ? NONE : 0);
                Check.due("place", x.person(inside, 6), waits ? NONE : inside);
                Check.due("fee", x.sort(0, 16), waits ? 0 : -3);
                Check.due("INSIDE", x.counter(0, 3), waits ? inside : inside + 1);
            }
        }
        // somebody is INSIDE there, not at another counter; a counter without anybody is the one with fewest
        LastServed y = shop("counter 0 1 0; counter 0 1 0; sort a 16 1 240 0 0 2;");
        y.come(0, 0);
        y.go(1);
        Check.due("in at the other counter", y.person(1, 2) * 10 + y.person(1, 1), 1);
        y.go(1);
        Check.due("now outside", y.person(2, 2) * 10 + y.person(2, 1), 20);
        // who bows isn't INSIDE
        LastServed z = shop("counter 0 1 0; sort a 16 1 240 0 0 2; bow 9;");
        z.come(0, 0);
        z.turn(0);
        z.go(1);
        Check.due("in, as the other one bows", z.person(1, 2), IN);
    }

    /** One inside, and so many of a sort of way 2 who came by lots and wait outside; then nobody comes any more. */
    private static LastServed withWaiting(int many, int minutesWithout) {
        LastServed x = shop("counter 0 1 0; sort a 0 1 240 0 0 0; sort b 8 1 240 0 0 2; fee 1; bow 2; close 240;");
        x.come(0, 0);
        x.seed(Lots.seedOf(2, "1".repeat(many) + "0".repeat(minutesWithout)));
        x.go(many);
        return x;
    }

    private static void whoWaitsComesIn() {
        LastServed x = withWaiting(3, 4);
        for (int k = 1; k <= 3; k++) {
            Check.due("waits " + k, x.person(k, 2), WAITING);
        }
        x.go(1);
        Check.due("with one INSIDE nobody comes in", x.counter(0, 3), 1);
        Check.due("1 waits", x.person(1, 2), WAITING);
        x.leave(0);
        Check.due("nobody comes in at once", x.counter(0, 3), 0);
        int gained = x.sort(1, 16);
        x.go(1);
        Check.due("with nobody INSIDE the least comes in", x.inside(0, 0), 1);
        Check.due("and then somebody is INSIDE", x.counter(0, 3), 1);
        Check.due("2 waits", x.person(2, 2), WAITING);
        Check.due("3 waits", x.person(3, 2), WAITING);
        Check.due("last in", x.person(1, 4), 4);
        Check.due("the fee", x.sort(1, 16), gained - 1);
        x.leave(1);
        x.go(1);
        Check.due("then the next", x.inside(0, 0), 2);
        // who turns by hand and bows leaves nobody INSIDE
        LastServed y = withWaiting(1, 3);
        y.turn(0);
        y.go(1);
        Check.due("in, as the other one bows", y.person(1, 2), IN);
        // at the counter at which one waits
        LastServed z = withWaiting(1, 2);
        z.leave(0);
        z.come(0, 0);
        z.go(1);
        Check.due("somebody came in by hand", z.person(1, 2), WAITING);
    }

    private static void whoBowedComesIn() {
        for (int bow = 1; bow <= 9; bow++) {
            LastServed x = shop("counter 0 1 0; sort a 0 1 240 0 0 0; bow " + bow + "; fee 2;");
            x.come(0, 0);
            x.come(0, 0);
            x.go(3);
            x.turn(0);
            Check.due("bowing till", x.person(0, 7), 3 + bow);
            x.go(bow);
            Check.due("the MINUTE is that one, but hasn't gone by", x.person(0, 2), BOWING);
            Check.due("no fee yet", x.sort(0, 16), -4);
            x.go(1);
            Check.due("in", x.person(0, 2), IN);
            Check.due("in that MINUTE", x.person(0, 4), 3 + bow);
            Check.due("behind the other one", x.person(0, 6), 1);
            Check.due("the fee", x.sort(0, 16), -6);
            Check.due("bowing no more", x.person(0, 7), NONE);
        }
        // by numbers, whoever went out first
        LastServed y = shop("counter 0 1 0; sort a 0 1 240 0 0 0; bow 2;");
        for (int k = 0; k < 3; k++) {
            y.come(0, 0);
        }
        y.turn(2);
        y.turn(0);
        y.turn(1);
        y.go(3);
        for (int k = 0; k < 3; k++) {
            Check.due("place " + k, y.inside(0, k), k);
        }
    }

    private static void whoIsNotTheLast() {
        for (int way = 0; way <= 2; way++) {
            for (int many = 1; many <= 4; many++) {
                LastServed x = shop("counter 0 1 0; sort a 0 1 240 0 0 " + way + "; bow 3;");
                for (int k = 0; k < many; k++) {
                    x.come(0, 0);
                }
                x.go(1);
                for (int k = 0; k < many; k++) {
                    boolean turns = way == 1 && k < many - 1;
                    Check.due("way " + way + ", " + k + " of " + many, x.person(k, 2), turns ? BOWING : IN);
                    Check.due("turns", x.person(k, 5), turns ? 1 : 0);
                }
            }
        }
        // each counter has its own last one
        LastServed y = shop("counter 0 1 0; counter 0 1 0; sort a 0 1 240 0 0 1; sort b 0 1 240 0 0 0; bow 3;");
        y.come(0, 0);
        y.come(0, 1);
        y.come(0, 1);
        y.come(1, 1);
        y.go(1);
        int[] states = {IN, BOWING, BOWING, IN};
        for (int k = 0; k < 4; k++) {
            Check.due("state of " + k, y.person(k, 2), states[k]);
        }
        // the order counts, not the number
        LastServed z = shop("counter 0 1 0; sort a 0 1 240 0 0 1; sort b 0 1 240 0 0 0; bow 3;");
        z.come(1, 0);
        z.come(0, 0);
        z.leave(0);
        z.come(0, 0);
        z.go(1);
        Check.due("0 came in behind 1", z.person(0, 2), IN);
        Check.due("1 isn't the last", z.person(1, 2), BOWING);
    }

    private static void bowing() {
        for (int bow = 0; bow <= 9; bow++) {
            LastServed x = shop("counter 0 1 0; sort a 0 1 240 0 0 1; sort b 0 1 240 0 0 0; fee 5; bow " + bow + ";");
            x.come(0, 0);
            x.go(4);
            x.come(1, 0);
            x.go(1);
            Check.due("state", x.person(0, 2), bow == 0 ? IN : BOWING);
            Check.due("till", x.person(0, 7), bow == 0 ? NONE : 4 + bow);
            Check.due("place", x.person(0, 6), bow == 0 ? 1 : NONE);
            Check.due("last in", x.person(0, 4), bow == 0 ? 4 : 0);
            Check.due("turns", x.person(0, 5), 1);
            Check.due("fees", x.sort(0, 16), bow == 0 ? -10 : -5);
            Check.due("INSIDE", x.counter(0, 3), bow == 0 ? 2 : 1);
            x.go(1);
            Check.due("as the last one no turn more", x.person(0, 5), 1);
        }
        // with B 0 one after another, by numbers: who was the last isn't, as another one came in behind
        LastServed y = shop("counter 0 1 0; sort a 0 1 240 0 0 1;");
        y.come(0, 0);
        y.come(0, 0);
        y.go(1);
        Check.due("0 turned and then 1 isn't the last", y.inside(0, 0) * 10 + y.inside(0, 1), 1);
        Check.due("turns", y.person(0, 5) * 10 + y.person(1, 5), 11);
    }

    private static void notBusy() {
        for (int each = 1; each <= 9; each++) {
            LastServed x = shop("counter 0 " + each + " 99; sort a 0 1 240 0 0 0;");
            for (int k = 0; k < 5; k++) {
                x.come(0, 0);
            }
            for (int minute = 0; minute < 3 * each + 1; minute++) {
                x.go(1);
                Check.due("SERVED by S " + each + " behind " + minute, x.sort(0, 11), minute / each + 1);
                Check.due("busy till", x.counter(0, 4), (minute / each + 1) * each);
            }
        }
        // each by itself
        LastServed y = shop("counter 0 9 9; counter 0 1 9; counter 0 2 9; sort a 0 1 240 0 0 0;");
        for (int k = 0; k < 15; k++) {
            y.come(0, k % 3);
        }
        y.go(3);
        Check.due("INSIDE", y.counter(0, 3) * 100 + y.counter(1, 3) * 10 + y.counter(2, 3), 423);
    }

    private static void stockAndSomebody() {
        for (int stock = 0; stock <= 4; stock++) {
            LastServed x = shop("counter 0 1 " + stock + "; sort a 0 1 240 0 0 0;");
            for (int k = 0; k < 3; k++) {
                x.come(0, 0);
            }
            x.go(10);
            Check.due("SERVED of 3 with STOCK " + stock, x.sort(0, 11), Math.min(3, stock));
            Check.due("STOCK", x.counter(0, 2), Math.max(0, stock - 3));
            Check.due("INSIDE", x.counter(0, 3), Math.max(0, 3 - stock));
        }
        LastServed y = shop("counter 0 5 9; sort a 0 1 240 0 0 0; bow 1;");
        y.go(7);
        Check.due("with nobody STOCK stays", y.counter(0, 2), 9);
        Check.due("and it isn't busy", y.counter(0, 4), 0);
        Check.due("BOOK", y.book(NONE, 0), 0);
        y.come(0, 0);
        y.turn(0);
        y.go(1);
        Check.due("who is OUTSIDE isn't served", y.sort(0, 11), 0);
        y.go(1);
        Check.due("SERVED as one comes in", y.sort(0, 11), 1);
        Check.due("busy till", y.counter(0, 4), 13);
        LastServed all = shop("counter 0 1 99; sort a 16 1 240 0 0 0; close 240;");
        all.go(99);
        Check.due("the 99th", all.counter(0, 2), 0);
        all.go(5);
        Check.due("no 100th", all.sort(0, 11), 99);
    }

    /** A counter by LOT draws one just as it serves: not while it is busy, without STOCK, or with nobody INSIDE. */
    private static void lotsOnlyToServe() {
        for (int stock : new int[] {0, 1, 2, 99}) {
            for (int each : new int[] {1, 2, 9}) {
                for (int first : new int[] {0, 1, 5}) {
                    LastServed x = shop("counter 3 " + each + " " + stock + "; sort a 4 1 240 0 0 0; close 240;");
                    for (int k = 0; k < first; k++) {
                        x.come(0, 0);
                    }
                    x.seed(2026);
                    Lots lots = new Lots(2026);
                    int came = first;
                    int inside = first;
                    int left = stock;
                    int free = 0;
                    for (int minute = 0; minute < 60; minute++) {
                        if (lots.below(16) < 4) {
                            came++;
                            inside++;
                        }
                        if (free <= minute && left > 0 && inside > 0) {
                            lots.below(inside);
                            inside--;
                            left--;
                            free = minute + each;
                        }
                        x.go(1);
                        Check.due("CAME by " + minute + " with STOCK " + stock + ", S " + each, x.sort(0, 10), came);
                        Check.due("INSIDE by " + minute, x.counter(0, 3), inside);
                    }
                }
            }
        }
    }

    private static void gonesAndStocks() {
        LastServed x = shop("counter 0 4 7; sort a 0 30 240 5 5 0;");
        x.come(0, 0);
        x.come(0, 0);
        x.go(2);
        Check.due("gone", x.person(0, 0), NONE);
        Check.due("there", x.count(7), 1);
        Check.due("SERVED", x.sort(0, 11), 1);
        Check.due("gave UP", x.sort(0, 12), 0);
        Check.due("STOCK", x.counter(0, 2), 6);
        Check.due("busy till", x.counter(0, 4), 4);
        Check.due("who is served pays no minute", x.sort(0, 16), 30 - 10);
        x.go(3);
        Check.due("STOCK", x.counter(0, 2), 5);
        Check.due("busy till", x.counter(0, 4), 8);
    }

    private static void patience() {
        for (int d : new int[] {1, 2, 3, 119, 238, 239}) {
            LastServed x = shop("counter 0 1 0; sort a 0 1 " + d + " 0 0 0; bow 1; close 240;");
            x.come(0, 0);
            x.turn(0);
            if (d > 1) {
                x.go(d - 1);
            }
            Check.due("there for D - 1 of " + d, x.count(7), 1);
            x.go(1);
            Check.due("there for D of " + d, x.count(7), 0);
            Check.due("gave UP", x.sort(0, 12), 1);
            Check.due("the number is free", x.person(0, 2), NONE);
        }
        // in its last minute one may still be served, behind it no more
        for (int d = 2; d <= 4; d++) {
            LastServed x = shop("counter 0 3 9; sort a 0 9 240 0 0 0; sort b 0 9 " + d + " 0 0 0;");
            x.come(0, 0);
            x.come(1, 0);
            x.go(6);
            Check.due("SERVED with D " + d, x.sort(1, 11), d > 3 ? 1 : 0);
            Check.due("gave UP with D " + d, x.sort(1, 12), d > 3 ? 0 : 1);
        }
        // those who wait outside, too; since coming at first, not since coming in
        LastServed y = shop("counter 0 1 0; sort a 0 1 240 0 0 0; sort b 16 1 5 0 0 2;");
        y.come(0, 0);
        y.go(5);
        Check.due("who waits gives UP", y.sort(1, 12), 1);
        Check.due("the first one", y.person(1, 3), NONE);
        LastServed z = shop("counter 0 1 0; sort a 0 1 4 0 0 0; bow 1;");
        z.come(0, 0);
        z.go(2);
        z.turn(0);
        z.go(2);
        Check.due("since coming at first", z.count(7), 0);
    }

    private static void closing() {
        for (int close : new int[] {10, 240}) {
            LastServed x = shop("counter 0 1 0; sort a 0 1 240 3 4 0; bow 9; close " + close + ";");
            x.go(close - 2);
            x.come(0, 0);
            x.come(0, 0);
            x.turn(1);
            x.go(1);
            Check.due("there at T - 1", x.count(7), 2);
            Check.due("GAINED", x.sort(0, 16), -7);
            Check.due("one at T - 1 still comes", x.come(0, 0), 2);
            x.go(1);
            Check.due("there at T", x.count(7), 0);
            Check.due("gave UP", x.sort(0, 12), 3);
            Check.due("INSIDE", x.counter(0, 3), 0);
            Check.due("who gives UP doesn't pay", x.sort(0, 16), -7);
        }
        // in the last MINUTE one is still served
        LastServed y = shop("counter 0 1 9; sort a 0 1 240 0 0 0; close 10;");
        y.go(9);
        y.come(0, 0);
        y.come(0, 0);
        y.go(1);
        Check.due("SERVED at T - 1", y.sort(0, 11), 1);
        Check.due("gave UP at T", y.sort(0, 12), 1);
        // PATIENCE 240 and T 240 at once: one gives UP once
        LastServed z = shop("counter 0 1 0; sort a 0 1 240 1 1 0; close 240;");
        z.come(0, 0);
        z.go(239);
        Check.due("there", z.count(7), 1);
        z.go(1);
        Check.due("gave UP", z.sort(0, 12), 1);
        Check.due("GAINED", z.sort(0, 16), -239);
    }

    private static void eachOtherPays() {
        for (int i = 0; i <= 9; i += 3) {
            for (int o = 0; o <= 9; o += 3) {
                LastServed x = shop("counter 0 1 0; sort a 0 1 3 " + i + " " + o + " 0; sort b 16 1 240 " + i + " " + o
                    + " 2; bow 9;");
                x.come(0, 0);
                x.come(0, 0);
                x.turn(1);
                x.go(1);
                Check.due("INSIDE and bowing", x.sort(0, 16), -i - o);
                Check.due("waiting", x.sort(1, 16), -o);
                x.go(1);
                Check.due("INSIDE and bowing", x.sort(0, 16), -2 * (i + o));
                Check.due("two waiting", x.sort(1, 16), -3 * o);
                x.go(1);
                Check.due("who gives UP pays no more", x.sort(0, 16), -2 * (i + o));
            }
        }
    }

    private static void behindT() {
        LastServed x = shop("counter 0 1 5; sort a 16 9 240 1 1 0; close 10;");
        x.go(10);
        int[] ahead = {x.counter(0, 2), x.counter(0, 4), x.sort(0, 10), x.sort(0, 11), x.sort(0, 12), x.sort(0, 16),
            x.book(NONE, 0)};
        for (int n : new int[] {1, 2, 240}) {
            Check.due("go(" + n + ") at T", x.go(n), 10);
            Check.due("come at T", x.come(0, 0), NONE);
            Check.due("MINUTE", x.count(2), 10);
            Check.due("there", x.count(7), 0);
            int[] behind = {x.counter(0, 2), x.counter(0, 4), x.sort(0, 10), x.sort(0, 11), x.sort(0, 12),
                x.sort(0, 16), x.book(NONE, 0)};
            for (int k = 0; k < ahead.length; k++) {
                Check.due("nothing goes on: " + k, behind[k], ahead[k]);
            }
        }
    }

    private static void waitsAreTold() {
        LastServed x = shop("counter 0 3 9; sort a 0 9 240 0 0 0; sort b 0 9 240 0 0 0; bow 2;");
        x.come(0, 0);
        x.come(0, 0);
        x.come(0, 0);
        int[] none = {3, 0, 0, 0, 0, 0};
        int[] one = {3, 1, 0, 0, 0, 0};
        int[] two = {3, 2, 0, 3, 9, 3};
        int[] three = {3, 3, 0, 9, 45, 6};
        told(x, none);
        x.go(1);
        told(x, one);
        x.go(2);
        told(x, one);
        x.go(1);
        told(x, two);
        x.go(3);
        told(x, three);
        for (int what = 10; what <= 16; what++) {
            Check.due("nothing told of the other SORT", x.sort(1, what), 0);
        }
        // a shorter wait behind a longer one leaves the longest
        x.go(4);
        x.come(0, 0);
        x.go(1);
        told(x, new int[] {4, 4, 0, 9, 45, 6});
        // since coming at first: a bow doesn't begin it anew
        LastServed y = shop("counter 0 1 9; sort a 0 9 240 0 0 0; bow 4;");
        y.come(0, 0);
        y.turn(0);
        y.go(5);
        Check.due("WAIT with a bow", y.sort(0, 13), 4);
        longestOfAll();
        LastServed up = shop("counter 0 1 0; sort a 0 9 240 0 0 0;");
        up.come(0, 0);
        up.go(7);
        up.leave(0);
        told(up, new int[] {1, 0, 1, 0, 0, 0});
    }

    /** One comes at 0, others are served ahead of that one till 234; a bow till 239 is the end of it. */
    private static void longestOfAll() {
        LastServed x = shop("counter 1 9 99; sort a 0 9 240 0 0 0; sort b 0 9 240 0 0 0; bow 5; close 240;");
        x.come(0, 0);
        for (int k = 0; k < 26; k++) {
            x.come(1, 0);
            x.go(9);
        }
        Check.due("turn", x.turn(0), true);
        x.go(5);
        Check.due("MINUTE", x.count(2), 239);
        x.go(1);
        Check.due("SERVED", x.sort(0, 11), 1);
        Check.due("WAITS", x.sort(0, 13), 239);
        Check.due("squares", x.sort(0, 14), 239 * 239);
        Check.due("longest", x.sort(0, 15), 239);
    }

    private static void told(LastServed x, int[] due) {
        for (int k = 0; k < due.length; k++) {
            Check.due("sort(0, 1" + k + ")", x.sort(0, 10 + k), due[k]);
        }
    }

    private static void gained() {
        for (int fee : new int[] {0, 1, 99}) {
            for (int bow : new int[] {0, 1, 9}) {
                for (int worth : new int[] {0, 1, 99}) {
                    LastServed x = shop("counter 0 1 1; sort a 0 " + worth + " 240 0 0 0; sort b 0 9 240 0 0 0; fee " + fee
                        + "; bow " + bow + ";");
                    x.come(0, 0);
                    Check.due("at first", x.sort(0, 16), -fee);
                    x.turn(0);
                    Check.due("with B 0 at once", x.sort(0, 16), bow == 0 ? -2 * fee : -fee);
                    x.go(bow + 1);
                    Check.due("behind the bow, and served", x.sort(0, 16), worth - 2 * fee);
                    Check.due("SERVED", x.sort(0, 11), 1);
                    Check.due("of the other SORT", x.sort(1, 16), 0);
                }
            }
        }
        // the least that it may be is far below 0
        LastServed y = shop("counter 0 1 0; sort a 0 0 240 9 9 0; fee 99; close 240;");
        for (int k = 0; k < 30; k++) {
            y.come(0, 0);
        }
        y.go(240);
        Check.due("30 who wait till T", y.sort(0, 16), -30 * 99 - 30 * 9 * 239);
    }

    private static void unlike() {
        LastServed x = shop("counter 0 3 9; sort a 0 9 240 0 0 0; sort b 0 9 240 0 0 0;");
        for (int k = 0; k < 4; k++) {
            x.come(0, 0);
        }
        Check.due("without SERVED", x.sort(0, 17), VOID);
        // waits 0, 3, 6, 9: by 1, 4, 9 and 16
        int[] due = {0, (2 * 9 - 9) / 4, (3 * 45 - 81) / 9, (4 * 126 - 324) / 16};
        for (int k = 0; k < 4; k++) {
            x.go(k == 0 ? 1 : 3);
            Check.due("UNLIKE of " + (k + 1), x.sort(0, 17), due[k]);
        }
        Check.due("of a SORT without SERVED", x.sort(1, 17), VOID);
        // so many and so long as a day has room for
        LastServed y = shop("counter 2 1 99; counter 2 1 99; counter 2 1 99; sort a 16 9 240 0 0 0; close 240;");
        for (int k = 0; k < 29; k++) {
            y.come(0, k % 3);
        }
        y.go(240);
        long served = y.sort(0, 11);
        long squares = y.sort(0, 14);
        long waits = y.sort(0, 13);
        Check.due("many are served", served > 200, true);
        Check.due("UNLIKE of many", y.sort(0, 17), (served * squares - waits * waits) / (served * served));
    }

    private static void lotsOfASeed() {
        for (int seed : new int[] {0, 1, 2, 999999, 1000000}) {
            LastServed x = shop("counter 0 1 99; sort a 8 1 240 0 0 0; close 240;");
            Check.due("seed(" + seed + ")", x.seed(seed), true);
            Lots lots = new Lots(seed);
            int came = 0;
            for (int k = 0; k < 120; k++) {
                came += lots.below(16) < 8 ? 1 : 0;
                x.go(1);
                Check.due("CAME by seed " + seed, x.sort(0, 10), came);
            }
        }
        for (int seed : new int[] {-1, -2, 1000001, 1000002, Integer.MAX_VALUE, Integer.MIN_VALUE}) {
            LastServed x = shop("counter 0 1 99; sort a 8 1 240 0 0 0; close 240;");
            x.seed(77);
            x.go(10);
            Check.due("seed(" + seed + ")", x.seed(seed), false);
            Lots lots = new Lots(77);
            int came = 0;
            for (int k = 0; k < 60; k++) {
                came += lots.below(16) < 8 ? 1 : 0;
                if (k >= 10) {
                    x.go(1);
                    Check.due("the lots go on as before seed " + seed, x.sort(0, 10), came);
                }
            }
        }
        // a seed is taken at any time
        LastServed y = shop("counter 0 1 99; sort a 8 1 240 0 0 0; close 240;");
        y.go(7);
        int before = y.sort(0, 10);
        y.seed(1000000);
        Lots lots = new Lots(1000000);
        int came = 0;
        for (int k = 0; k < 50; k++) {
            came += lots.below(16) < 8 ? 1 : 0;
        }
        y.go(50);
        Check.due("CAME behind a new seed", y.sort(0, 10), before + came);
    }

    /** Lots below 16 have only the lower bits of x in them; those by LAW 3 below 30, 29 .. have all of them. */
    private static void lowestBits() {
        int above = 0;
        int below = 0;
        for (int seed = 0; seed <= 1000000; seed += 99991) {
            LastServed x = shop("counter 3 1 99; sort a 8 1 240 0 0 0; close 240;");
            x.seed(seed);
            Lots lots = new Lots(seed);
            for (int k = 0; k < 25; k++) {
                x.come(0, 0);
            }
            int many = 25;
            for (int minute = 0; minute < 60 && many > 0; minute++) {
                many += lots.below(16) < 8 && many < 30 ? 1 : 0;
                boolean cut = (lots.x() * 1103515245L + 12345L & 0x80000000L) != 0;
                above += cut ? 1 : 0;
                below += cut ? 0 : 1;
                int place = lots.below(many);
                x.go(1);
                int entry = Math.min(minute, 19);
                Check.due("how many by seed " + seed, x.book(entry, 3), many);
                Check.due("the lot below " + many + " by seed " + seed, x.book(entry, 4), place);
                many--;
            }
        }
        Check.due("often the bit above the lowest 31 was to be cut off", above > 100, true);
        Check.due("and often not", below > 100, true);
    }

    private static void restByN() {
        // by hand: of 0 comes 12345, by 256 that is 48, and 48 rest by 16 is 0; then 1406932606: 5495830, rest by 16 is 6
        LastServed x = shop("counter 0 1 0; sort a 1 1 9 0 0 0; sort b 6 1 9 0 0 0; sort c 0 1 9 0 0 0;");
        x.go(1);
        Check.due("0 is below 1", x.sort(0, 10), 1);
        Check.due("6 isn't below 6", x.sort(1, 10), 0);
        LastServed y = shop("counter 0 1 0; sort a 0 1 9 0 0 0; sort b 7 1 9 0 0 0;");
        y.go(1);
        Check.due("6 is below 7", y.sort(1, 10), 1);
        // n 30, 29 .. 1: the rest by n, also by 1
        for (int n = 1; n <= 30; n++) {
            for (int seed : new int[] {0, 5, 654321}) {
                LastServed z = shop("counter 3 1 99; sort a 0 1 240 0 0 0;");
                for (int k = 0; k < n; k++) {
                    z.come(0, 0);
                }
                z.seed(seed);
                z.go(1);
                Lots lots = new Lots(seed);
                lots.below(16);
                Check.due("a lot below " + n, z.book(0, 4), lots.below(n));
            }
        }
    }
}
