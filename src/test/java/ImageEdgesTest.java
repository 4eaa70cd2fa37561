/** Terms 6 and promises 29 to 32: each sentence that names an edge of stocks that run out, of images, or of counts. */
public final class ImageEdgesTest {
    private static final int NONE = LastServed.NONE;
    private static final String TOWN = "counter 3 2 50; counter 1 3 50; counter 4 1 9; sort a 9 30 40 1 2 0;"
        + "sort b 7 50 20 2 1 1; sort c 6 40 60 1 3 2; bow 2; fee 1; close 200;";

    public static void main(String[] args) {
        Sentences.holds("RUNS OUT: with K left of STOCK and n INSIDE at a COUNTER, nobody else coming: of each in order"
            + " whether SERVED ahead of its end by a LAW (0, 1, 2), as bits of places in the order in which they came in.",
            ImageEdgesTest::runsOut);
        Sentences.holds("RUNS OUT (law 0 .. 2, n 0 .. 12, k 0 .. 12); NONE if they can't be.", ImageEdgesTest::cannotRunOut);
        Sentences.holds("An IMAGE (0 .. 2) keeps MINUTE, PEOPLE, COUNTERS, what is told of SORTS, BOOK and x.",
            ImageEdgesTest::whatAnImageKeeps);
        Sentences.holds("An IMAGE comes: true; false without a TOWN, or if there is no such number.",
            ImageEdgesTest::imagesThatCome);
        Sentences.holds("An IMAGE is gone on from: true; false if there is none.", ImageEdgesTest::goingOn);
        Sentences.holds("0 COUNTERS, 1 SORTS, 2 MINUTE, 3 T, 4 F, 5 B, 6 LAWS, 7 how many are there, 8 COMERS, 9 bytes of the"
            + " text.", ImageEdgesTest::counts);
        Sentences.holds("NONE for others. (0 .. 5: 0 without a TOWN.)", ImageEdgesTest::otherCounts);
        Sentences.holds("An object is used for at most 512 calls after it has been made", ImageEdgesTest::fiveHundredCalls);
        Check.close("ImageEdgesTest");
    }

    private static void runsOut() {
        for (int n = 0; n <= 12; n++) {
            LastServed x = new LastServed();
            int all = (1 << n) - 1;
            for (int law = 0; law <= 2; law++) {
                Check.due("nothing left of STOCK, " + n, x.out(law, n, 0), 0);
                for (int k = n; k <= 12; k++) {
                    Check.due("enough for all of " + n, x.out(law, n, k), all);
                }
            }
            for (int k = 0; k < n; k++) {
                Check.due("FIRST of " + n + " with " + k, x.out(0, n, k), (1 << k) - 1);
                Check.due("LAST of " + n + " with " + k, x.out(1, n, k), all & ~((1 << n - k) - 1));
            }
            if (n > 0) {
                Check.due("MIDDLE of " + n + " with 1", x.out(2, n, 1), 1 << n / 2);
            }
        }
        LastServed x = new LastServed();
        // MIDDLE of 4: 2, then of 0, 1, 3: 1, then of 0, 3: 3
        Check.due("MIDDLE of 4 with 2", x.out(2, 4, 2), 6);
        Check.due("MIDDLE of 4 with 3", x.out(2, 4, 3), 14);
        // MIDDLE of 12: 6, 5, 7, 4, 8, 3, 9, 2, 10, 1, 11, 0
        int[] order = {6, 5, 7, 4, 8, 3, 9, 2, 10, 1, 11, 0};
        int bits = 0;
        for (int k = 0; k < 12; k++) {
            bits |= 1 << order[k];
            Check.due("MIDDLE of 12 with " + (k + 1), x.out(2, 12, k + 1), bits);
        }
        // as the shop itself does it
        for (int law = 0; law <= 2; law++) {
            for (int stock = 0; stock <= 12; stock += 3) {
                Check.due("as a shop serves 12 with " + stock, servedByAShop(law, 12, stock), x.out(law, 12, stock));
            }
        }
    }

    private static int servedByAShop(int law, int n, int stock) {
        LastServed x = Check.withTown("counter " + law + " 1 " + stock + "; sort a 0 1 240 0 0 0;");
        for (int k = 0; k < n; k++) {
            x.come(0, 0);
        }
        x.go(20);
        int served = 0;
        for (int k = 0; k < n; k++) {
            served |= x.person(k, 0) == NONE ? 1 << k : 0;
        }
        return served;
    }

    private static void cannotRunOut() {
        LastServed x = new LastServed();
        int[] far = {Integer.MIN_VALUE, -2, -1, 0, 1, 11, 12, 13, 14, 32, 33, Integer.MAX_VALUE};
        for (int n : far) {
            for (int k : far) {
                boolean can = n >= 0 && n <= 12 && k >= 0 && k <= 12;
                Check.due("out(0, " + n + ", " + k + ")", x.out(0, n, k) != NONE, can);
            }
        }
        for (int law = -2; law <= 9; law++) {
            Check.due("out(" + law + ", 3, 2)", x.out(law, 3, 2) != NONE, law >= 0 && law <= 2);
        }
        Check.due("law far below", x.out(Integer.MIN_VALUE, 3, 2), NONE);
        Check.due("law far above", x.out(Integer.MAX_VALUE, 3, 2), NONE);
        // told LAWS are none of these
        Check.tellLaws(x, "law least came;");
        Check.due("a told LAW", x.out(4, 3, 2), NONE);
    }

    private static LastServed goneOn(int minutes) {
        LastServed x = new LastServed();
        Check.tellLaws(x, "law least wait;");
        Check.tellTown(x, TOWN);
        x.seed(99);
        x.go(minutes);
        return x;
    }

    /** Each answer of a part of what an image keeps. */
    private static String part(LastServed x, String of) {
        StringBuilder all = new StringBuilder();
        switch (of) {
            case "MINUTE":
                all.append(x.count(2));
                break;
            case "PEOPLE":
                all.append(x.count(7));
                for (int person = 0; person < 30; person++) {
                    for (int what = 0; what < 8; what++) {
                        all.append(' ').append(x.person(person, what));
                    }
                }
                break;
            case "COUNTERS":
                for (int counter = 0; counter < 3; counter++) {
                    for (int k = 0; k < 30; k++) {
                        all.append(' ').append(k < 5 ? x.counter(counter, k) : 0).append(' ').append(x.inside(counter, k));
                    }
                }
                break;
            case "SORTS":
                for (int sort = 0; sort < 3; sort++) {
                    for (int what = 10; what <= 17; what++) {
                        all.append(' ').append(x.sort(sort, what));
                    }
                }
                break;
            case "BOOK":
                for (int k = -1; k < 20; k++) {
                    for (int what = 0; what < 5; what++) {
                        all.append(' ').append(x.book(k, what));
                    }
                }
                break;
            default:
                // x is seen by what the lots do
                x.go(30);
                all.append(part(x, "SORTS"));
                break;
        }
        return all.toString();
    }

    private static void whatAnImageKeeps() {
        for (String of : new String[] {"MINUTE", "PEOPLE", "COUNTERS", "SORTS", "BOOK", "x"}) {
            for (int k = 0; k <= 2; k++) {
                LastServed plain = goneOn(40);
                String due = part(plain, of);
                LastServed x = goneOn(40);
                Check.due("image(" + k + ")", x.image(k), true);
                x.seed(7);
                x.go(40);
                x.come(0, 1);
                x.leave(x.inside(1, 0));
                Check.due("on(" + k + ")", x.on(k), true);
                Check.due(of + " is as it was", part(x, of).equals(due), true);
                LastServed other = goneOn(80);
                Check.due(of + " was another one", part(other, of).equals(due), false);
            }
        }
        bookOfAnImage();
        // at the edges of the day, and with nobody and with 30 there
        LastServed x = Check.withTown("counter 0 9 99; sort a 0 1 240 0 0 0; close 10;");
        x.image(0);
        for (int k = 0; k < 30; k++) {
            x.come(0, 0);
        }
        x.image(1);
        x.go(10);
        x.image(2);
        int[][] due = {{0, 0, 0, 0}, {0, 30, 30, 0}, {10, 0, 30, 2}};
        for (int round = 0; round < 2; round++) {
            for (int k = 0; k < 3; k++) {
                x.on(k);
                int[] got = {x.count(2), x.count(7), x.sort(0, 10), x.sort(0, 11)};
                for (int fact = 0; fact < 4; fact++) {
                    Check.due("image " + k + ", fact " + fact, got[fact], due[k][fact]);
                }
            }
        }
        // what it doesn't keep stays as it is: LAWS, the row, the text
        Check.tellLaws(x, "law least came; law most came;");
        x.comer(3, 3);
        x.feed(0, 0, 0, 0, 0);
        x.on(1);
        Check.due("LAWS, COMERS, bytes", x.count(6) * 1000 + x.count(8) * 100 + x.count(9), 2120);
    }

    private static void bookOfAnImage() {
        for (int entries = 0; entries <= 20; entries += 5) {
            LastServed x = Check.withTown("counter 0 1 99; sort a 0 1 240 0 0 0;");
            for (int k = 0; k < 30; k++) {
                x.come(0, 0);
            }
            x.image(0);
            if (entries > 0) {
                x.go(entries);
            }
            x.image(1);
            x.go(25 - entries);
            Check.due("ENTRIES", x.book(NONE, 0), 20);
            x.on(1);
            Check.due("ENTRIES of the image", x.book(NONE, 0), entries);
            Check.due("none behind them", x.book(entries, 0), NONE);
            x.go(1);
            Check.due("one more behind them", x.book(Math.min(entries, 19), 2), entries);
            x.on(0);
            Check.due("no ENTRIES at first", x.book(NONE, 0), 0);
        }
    }

    private static void imagesThatCome() {
        for (int k = -2; k <= 5; k++) {
            LastServed x = new LastServed();
            Check.due("image(" + k + ") without a TOWN", x.image(k), false);
            Check.due("on(" + k + ") behind it", x.on(k), false);
            Check.tellTown(x, TOWN);
            Check.due("on(" + k + ") as a TOWN came", x.on(k), false);
            boolean can = k >= 0 && k <= 2;
            Check.due("image(" + k + ")", x.image(k), can);
            for (int other = -2; other <= 5; other++) {
                Check.due("on(" + other + ") of " + k, x.on(other), can && other == k);
            }
        }
        LastServed x = Check.withTown(TOWN);
        Check.due("image(least)", x.image(Integer.MIN_VALUE), false);
        Check.due("image(most)", x.image(Integer.MAX_VALUE), false);
        // a later one takes the place of the one ahead
        x.image(1);
        x.go(5);
        x.image(1);
        x.go(5);
        x.on(1);
        Check.due("MINUTE of the later one", x.count(2), 5);
    }

    private static void goingOn() {
        LastServed x = Check.withTown(TOWN);
        for (int k = -2; k <= 5; k++) {
            Check.due("on(" + k + ") without any", x.on(k), false);
        }
        x.go(3);
        x.image(0);
        x.go(3);
        x.image(2);
        x.go(3);
        Check.due("on(1)", x.on(1), false);
        Check.due("MINUTE stays", x.count(2), 9);
        Check.due("on(0)", x.on(0), true);
        Check.due("MINUTE", x.count(2), 3);
        x.go(1);
        Check.due("on(0) as often as one likes", x.on(0), true);
        Check.due("MINUTE", x.count(2), 3);
        Check.due("on(2)", x.on(2), true);
        Check.due("MINUTE", x.count(2), 6);
        Check.due("on(least)", x.on(Integer.MIN_VALUE), false);
        Check.due("on(most)", x.on(Integer.MAX_VALUE), false);
        Check.due("MINUTE stays", x.count(2), 6);
        // behind T one goes on, too
        x.go(240);
        Check.due("closed", x.come(0, 0), NONE);
        x.on(2);
        Check.due("open again", x.come(0, 0) != NONE, true);
        // a text with a FAULT leaves the images, a TOWN doesn't
        Check.text(x, TOWN + ";");
        x.town();
        Check.due("on(2) behind a FAULT", x.on(2), true);
        Check.tellTown(x, TOWN);
        for (int k = 0; k < 3; k++) {
            Check.due("on(" + k + ") behind a TOWN", x.on(k), false);
        }
        Check.due("without a TOWN", new LastServed().on(0), false);
    }

    private static void row(LastServed x, int... due) {
        for (int what = 0; what < due.length; what++) {
            Check.due("count(" + what + ")", x.count(what), due[what]);
        }
    }

    private static void counts() {
        LastServed least = Check.withTown("counter 0 1 0; sort a 0 0 1 0 0 0; close 10; fee 0; bow 0;");
        row(least, 1, 1, 0, 10, 0, 0, 0, 0, 0, 0);
        String town = "counter 0 1 0;".repeat(3) + "sort a 0 0 240 0 0 0; sort b 0 0 240 0 0 0; sort c 0 0 240 0 0 0;"
            + "sort d 0 0 240 0 0 0; sort e 0 0 240 0 0 0; close 240; fee 99; bow 9;";
        LastServed most = Check.withTown(town);
        Check.tellLaws(most, "law most 1;".repeat(5));
        row(most, 3, 5, 0, 240, 99, 9, 5, 0, 0, 0);
        most.go(239);
        for (int k = 0; k < 30; k++) {
            most.come(k % 5, k % 3);
        }
        most.turn(7);
        for (int k = 0; k < 9; k++) {
            most.comer(200, 20);
        }
        Check.text(most, " ".repeat(500));
        row(most, 3, 5, 239, 240, 99, 9, 5, 30, 8, 500);
        most.go(1);
        row(most, 3, 5, 240, 240, 99, 9, 5, 0, 8, 500);
        most.clear();
        most.end(499);
        row(most, 3, 5, 240, 240, 99, 9, 5, 0, 0, 499);
    }

    private static void otherCounts() {
        for (int what : new int[] {-1, -2, 10, 11, 100, Integer.MIN_VALUE, Integer.MAX_VALUE}) {
            Check.due("count(" + what + ")", Check.withTown(TOWN).count(what), NONE);
            Check.due("count(" + what + ") without a TOWN", new LastServed().count(what), NONE);
        }
        LastServed x = new LastServed();
        row(x, 0, 0, 0, 0, 0, 0, 0, 0, 0, 0);
        // what isn't of the TOWN counts without one, too, and a text with a FAULT makes none
        Check.tellLaws(x, "law most 1;");
        x.comer(1, 1);
        Check.text(x, "counter 0 1 1; close 100; fee 9; bow 9;");
        Check.due("a FAULT", x.town(), NONE);
        row(x, 0, 0, 0, 0, 0, 0, 1, 0, 1, 39);
    }

    /** As many calls as an object is made for, and the last of them still answers as it should. */
    private static void fiveHundredCalls() {
        LastServed x = Check.withTown("counter 0 1 99; sort a 16 5 240 0 0 0; close 240;");
        // feed, end, fault and town were called 7 times, and 6 calls follow
        int calls = 7 + 6;
        while (calls + 5 <= 512) {
            x.turn(calls % 30);
            x.image(calls % 3);
            x.on(calls % 3);
            x.comer(calls % 200, 1);
            x.clear();
            calls += 5;
        }
        Check.due("MINUTE", x.count(2), 0);
        Check.due("go(240)", x.go(240), 240);
        Check.due("CAME", x.sort(0, 10), 99 + 30);
        Check.due("SERVED", x.sort(0, 11), 99);
        Check.due("gave UP", x.sort(0, 12), 30);
        Check.due("GAINED", x.sort(0, 16), 495);
    }
}
