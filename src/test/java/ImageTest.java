/** Promises 29 to 32: out, image, on, and what count tells as the shop goes on. */
public final class ImageTest {
    private static final int NONE = LastServed.NONE;
    private static final String TOWN = "counter 3 2 50; counter 1 3 50; sort a 9 30 40 1 2 0; sort b 7 50 20 2 1 1;"
        + "sort c 6 40 60 1 3 2; bow 2; fee 1;";

    public static void main(String[] args) {
        runsOut();
        imagesKeepAll();
        imagesOfTheirOwn();
        imagesThatCannotBe();
        counts();
        Check.close("ImageTest");
    }

    private static int servedByHand(int law, int n, int k) {
        java.util.List<Integer> there = new java.util.ArrayList<>();
        for (int place = 0; place < n; place++) {
            there.add(place);
        }
        int bits = 0;
        for (int left = k; left > 0 && !there.isEmpty(); left--) {
            int at = law == 0 ? 0 : law == 1 ? there.size() - 1 : there.size() / 2;
            bits |= 1 << there.remove(at);
        }
        return bits;
    }

    private static void runsOut() {
        LastServed x = new LastServed();
        for (int law = 0; law <= 2; law++) {
            for (int n = 0; n <= 12; n++) {
                for (int k = 0; k <= 12; k++) {
                    Check.due("out(" + law + ", " + n + ", " + k + ")", x.out(law, n, k), servedByHand(law, n, k));
                }
            }
        }
        Check.due("all of 12", x.out(1, 12, 12), 4095);
        Check.due("out(0, 5, 2)", x.out(0, 5, 2), 3);
        Check.due("out(1, 5, 2)", x.out(1, 5, 2), 24);
        Check.due("out(2, 5, 2)", x.out(2, 5, 2), 12);
        int[][] wrong = {{-1, 5, 5}, {3, 5, 5}, {4, 5, 5}, {0, -1, 5}, {0, 13, 5}, {0, 5, -1}, {0, 5, 13}};
        for (int[] w : wrong) {
            Check.due("out of what can't be", x.out(w[0], w[1], w[2]), NONE);
        }
    }

    /** All that can be asked of the shop, as one text. */
    static String seen(LastServed x) {
        StringBuilder all = new StringBuilder();
        for (int what = 0; what <= 9; what++) {
            all.append(x.count(what)).append(' ');
        }
        for (int counter = 0; counter < 3; counter++) {
            for (int what = 0; what < 5; what++) {
                all.append(x.counter(counter, what)).append(' ');
            }
            for (int k = 0; k < 30; k++) {
                all.append(x.inside(counter, k)).append(' ');
            }
        }
        for (int sort = 0; sort < 5; sort++) {
            for (int what = 0; what <= 17; what++) {
                all.append(x.sort(sort, what)).append(' ');
            }
        }
        for (int person = 0; person < 30; person++) {
            for (int what = 0; what < 8; what++) {
                all.append(x.person(person, what)).append(' ');
            }
        }
        for (int k = -1; k < 20; k++) {
            for (int what = 0; what < 5; what++) {
                all.append(x.book(k, what)).append(' ');
            }
        }
        return all.toString();
    }

    private static void imagesKeepAll() {
        LastServed x = Check.withTown(TOWN);
        x.seed(99);
        x.go(30);
        String then = seen(x);
        Check.due("image", x.image(2), true);
        x.go(20);
        String later = seen(x);
        Check.due("the shop went on", then.equals(later), false);
        Check.due("on", x.on(2), true);
        Check.due("as it was", seen(x).equals(then), true);
        x.go(20);
        Check.due("and goes on by the same lots", seen(x).equals(later), true);
        x.go(200);
        Check.due("on from behind closing", x.on(2), true);
        Check.due("as it was", seen(x).equals(then), true);
        x.come(0, 0);
        x.turn(0);
        x.leave(1);
        x.seed(5);
        x.on(2);
        x.go(20);
        Check.due("an image stays as it is", seen(x).equals(later), true);
    }

    private static void imagesOfTheirOwn() {
        LastServed x = Check.withTown(TOWN);
        String[] then = new String[3];
        for (int k = 0; k < 3; k++) {
            x.go(10);
            Check.due("image " + k, x.image(k), true);
            then[k] = seen(x);
        }
        for (int k = 2; k >= 0; k--) {
            Check.due("on " + k, x.on(k), true);
            Check.due("as it was with " + k, seen(x).equals(then[k]), true);
        }
        Check.due("image 1 anew", x.image(1), true);
        x.go(5);
        x.on(1);
        Check.due("an image takes the place of the one ahead", seen(x).equals(then[0]), true);
        x.comer(5, 5);
        Check.tellLaws(x, "law least 1;");
        x.on(2);
        Check.due("the row stays", x.count(8), 1);
        Check.due("the laws stay", x.count(6), 1);
    }

    private static void imagesThatCannotBe() {
        LastServed x = new LastServed();
        Check.due("image without a town", x.image(0), false);
        Check.due("on without a town", x.on(0), false);
        Check.tellTown(x, TOWN);
        Check.due("on without an image", x.on(0), false);
        Check.due("image(-1)", x.image(-1), false);
        Check.due("image(3)", x.image(3), false);
        Check.due("image(0)", x.image(0), true);
        Check.due("on(1)", x.on(1), false);
        Check.due("on(-1)", x.on(-1), false);
        Check.due("on(3)", x.on(3), false);
        Check.due("on(0)", x.on(0), true);
        Check.text(x, "counter");
        x.town();
        Check.due("a town with a fault leaves the images", x.on(0), true);
        Check.tellTown(x, TOWN);
        Check.due("a new town has no images", x.on(0), false);
    }

    private static void counts() {
        LastServed x = Check.withTown("counter 0 9 9; sort a 0 1 99 0 0 0; close 240; fee 99; bow 9;");
        int[] told = {1, 1, 0, 240, 99, 9, 0, 0, 0, 0};
        for (int what = 0; what < told.length; what++) {
            Check.due("count(" + what + ")", x.count(what), told[what]);
        }
        x.come(0, 0);
        x.come(0, 0);
        x.go(7);
        x.comer(1, 1);
        x.comer(1, 1);
        x.comer(1, 1);
        x.feed(0, 0, 0, 0, 0);
        x.end(13);
        int[] now = {1, 1, 7, 240, 99, 9, 0, 1, 3, 13};
        for (int what = 0; what < now.length; what++) {
            Check.due("count(" + what + ")", x.count(what), now[what]);
        }
        Check.due("count(10)", x.count(10), NONE);
        Check.due("count(-1)", x.count(-1), NONE);
        x.turn(1);
        Check.due("who bows is there, too", x.count(7), 1);
    }
}
