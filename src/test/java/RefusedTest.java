import java.util.ArrayList;
import java.util.List;

/**
 * "What is refused changes nothing.": of two objects made by the same calls one gets a call that is refused, or that
 * only asks, and then no run of calls tells them apart.
 */
public final class RefusedTest {
    private static final int NONE = LastServed.NONE;
    private static final int VOID = LastServed.VOID;
    private static final int LEAST = Integer.MIN_VALUE;
    private static final int MOST = Integer.MAX_VALUE;
    private static final String TOWN = "counter 3 2 50; counter 4 3 50; counter 0 1 99; sort a 5 30 40 1 2 0;"
        + "sort b 4 50 20 2 1 1; sort c 6 40 60 1 3 2; bow 2; fee 1; close 100;";
    private static final String LAWS = "law least wait; law most worth - ahead * 7;";

    /** Calls that make a state. */
    private interface Made {
        void of(LastServed x);
    }

    /** One call with its answer; of a boolean 1 or 0. */
    private interface Call {
        long of(LastServed x);
    }

    private static final class Refusal {
        final String words;
        final Call call;
        final long due;

        Refusal(String words, long due, Call call) {
            this.words = words;
            this.call = call;
            this.due = due;
        }
    }

    public static void main(String[] args) {
        Sentences.holds("What is refused changes nothing.", RefusedTest::inEveryState);
        Check.close("RefusedTest");
    }

    private static void inEveryState() {
        inAState("a new object", x -> { }, withoutATown());
        inAState("no town, but laws, a row and a text", RefusedTest::noTown, withoutATown());
        inAState("a day that goes on", RefusedTest::aDay, withATown());
        inAState("thirty there, eight in the row, five hundred bytes", RefusedTest::full, ofAFullShop());
        inAState("closed", RefusedTest::closed, ofAClosedShop());
    }

    private static void noTown(LastServed x) {
        Check.tellLaws(x, LAWS);
        x.comer(3, 9);
        x.comer(4, 2);
        x.comer(5, 1);
        Check.text(x, "counter 0 1 1; sort a 1 1 1 1 1 1");
    }

    private static void aDay(LastServed x) {
        Check.tellLaws(x, LAWS);
        Check.tellTown(x, TOWN);
        x.seed(4711);
        x.comer(0, 9);
        x.comer(4, 2);
        x.comer(5, 1);
        x.go(30);
        x.image(0);
        x.go(10);
        x.image(2);
        x.come(0, 1);
        x.come(1, 0);
        x.come(2, 0);
        x.turn(x.inside(0, 0));
        Check.text(x, "law least 1 + 2;");
    }

    private static void full(LastServed x) {
        Check.tellTown(x, TOWN);
        x.seed(1000000);
        x.go(3);
        for (int k = 0; k < 30; k++) {
            x.come(k % 3, k % 2);
        }
        x.turn(4);
        x.image(1);
        for (int k = 0; k < 8; k++) {
            x.comer(20 * k, 20 - k);
        }
        Check.text(x, "counter 0 1 1; sort a 1 1 1 1 1 1;" + " ".repeat(465) + ";");
    }

    private static void closed(LastServed x) {
        Check.tellTown(x, TOWN);
        x.go(99);
        x.image(2);
        x.go(240);
        Check.text(x, "law least 1 + 2");
    }

    private static void inAState(String state, Made made, List<Refusal> refusals) {
        String ahead = allThatIsSeen(made, null);
        for (Refusal refusal : refusals) {
            LastServed x = new LastServed();
            made.of(x);
            Check.due(state + ": " + refusal.words, refusal.call.of(x), refusal.due);
            Check.due(state + ": " + refusal.words + " once more", refusal.call.of(x), refusal.due);
            String behind = allThatIsSeen(made, refusal);
            Check.due(state + ": " + refusal.words + " changes nothing", behind.equals(ahead), true);
        }
        for (Refusal asking : askings()) {
            String behind = allThatIsSeen(made, asking);
            Check.due(state + ": " + asking.words + " only asks", behind.equals(ahead), true);
        }
    }

    /** Each part on an object of its own, so that none is used for more calls than it is made for. */
    private static String allThatIsSeen(Made made, Refusal ahead) {
        StringBuilder all = new StringBuilder();
        for (int part = 0; part < 11; part++) {
            LastServed x = new LastServed();
            made.of(x);
            if (ahead != null) {
                ahead.call.of(x);
            }
            seePart(x, part, all);
            all.append('\n');
        }
        return all.toString();
    }

    private static void seePart(LastServed x, int part, StringBuilder all) {
        switch (part) {
            case 0:
                seeShop(x, all);
                break;
            case 1:
                seePeople(x, all);
                break;
            case 2:
                seeBook(x, all);
                break;
            case 3:
                seeRow(x, all);
                break;
            case 4:
                seeOnes(x, all);
                break;
            case 5:
                // the text, by what comes of it
                all.append(x.fault(0)).append(' ').append(x.fault(1)).append(' ').append(x.laws());
                seeRow(x, all);
                break;
            case 6:
                all.append(x.end(34)).append(' ').append(x.fault(0)).append(' ').append(x.feed(0x3b202020, 0x20202020,
                    0x20202020, 0x20202020, 0x20202020)).append(' ').append(x.fault(0)).append(' ').append(x.town());
                seeShop(x, all);
                break;
            case 7:
                // x of the lots, by what they do
                all.append(x.go(20));
                seeShop(x, all);
                break;
            default:
                all.append(x.on(part - 8)).append(' ').append(x.go(3));
                seeShop(x, all);
                break;
        }
    }

    private static void seeShop(LastServed x, StringBuilder all) {
        for (int what = 0; what <= 9; what++) {
            all.append(x.count(what)).append(' ');
        }
        for (int counter = 0; counter < 3; counter++) {
            for (int what = 0; what < 5; what++) {
                all.append(x.counter(counter, what)).append(' ');
            }
            for (int k = 0; k < 30; k++) {
                all.append(x.inside(counter, k)).append(' ');
            }
            for (int law = 0; law <= 8; law++) {
                all.append(x.next(counter, law)).append(' ');
            }
        }
        for (int sort = 0; sort < 5; sort++) {
            for (int what = 0; what <= 17; what++) {
                all.append(x.sort(sort, what)).append(' ');
            }
        }
    }

    private static void seePeople(LastServed x, StringBuilder all) {
        for (int person = 0; person < 30; person++) {
            for (int what = 0; what < 8; what++) {
                all.append(x.person(person, what)).append(' ');
            }
        }
    }

    private static void seeBook(LastServed x, StringBuilder all) {
        for (int k = -1; k < 20; k++) {
            for (int what = 0; what < 5; what++) {
                all.append(x.book(k, what)).append(' ');
            }
        }
        for (int counter = 0; counter < 3; counter++) {
            for (int law = 0; law <= 2; law++) {
                all.append(x.judge(counter, law)).append(' ');
            }
        }
    }

    private static void seeRow(LastServed x, StringBuilder all) {
        all.append(x.lot()).append(' ').append(x.best()).append(' ');
        for (int law = 0; law <= 8; law++) {
            for (int k = 0; k < 8; k++) {
                all.append(x.waits(law, k, 0)).append(' ').append(x.waits(law, k, 1)).append(' ');
            }
            for (int what = 2; what <= 4; what++) {
                all.append(x.waits(law, 0, what)).append(' ');
            }
        }
        all.append(x.count(6)).append(' ').append(x.count(9));
    }

    private static void seeOnes(LastServed x, StringBuilder all) {
        for (int sort = 0; sort < 3; sort++) {
            for (int counter = 0; counter < 3; counter++) {
                all.append(x.value(sort, counter, 250302, 5, 0)).append(' ').append(x.value(sort, counter, 250203, 5, 1))
                    .append(' ').append(x.entering(sort, counter, 3104, 7)).append(' ')
                    .append(x.when(sort, counter, 77, 123456, 3)).append(' ').append(x.least(sort, counter, 20, 9))
                    .append(' ').append(x.send(sort, counter, 250302, 5, 3)).append(' ');
            }
        }
    }

    private static int feed(LastServed x) {
        return x.feed(0x3b3b3b3b, 0x3b3b3b3b, 0x3b3b3b3b, 0x3b3b3b3b, 0x3b3b3b3b);
    }

    private static int is(boolean answer) {
        return answer ? 1 : 0;
    }

    /** Refused in every state, whatever is there. */
    private static List<Refusal> always() {
        List<Refusal> all = new ArrayList<>();
        for (int n : new int[] {-1, 501, LEAST, MOST}) {
            all.add(new Refusal("end(" + n + ")", 0, x -> is(x.end(n))));
        }
        for (int what : new int[] {-1, 2, LEAST, MOST}) {
            all.add(new Refusal("fault(" + what + ")", VOID, x -> x.fault(what)));
        }
        for (int seed : new int[] {-1, 1000001, LEAST, MOST}) {
            all.add(new Refusal("seed(" + seed + ")", 0, x -> is(x.seed(seed))));
        }
        for (int out : new int[] {-1, 5, LEAST, MOST}) {
            all.add(new Refusal("come(" + out + ", 0)", NONE, x -> x.come(out, 0)));
            all.add(new Refusal("come(0, " + out + ")", NONE, x -> x.come(0, out)));
            all.add(new Refusal("counter(" + out + ", 0)", NONE, x -> x.counter(out, 0)));
            all.add(new Refusal("counter(0, " + out + ")", NONE, x -> x.counter(0, out)));
            all.add(new Refusal("sort(" + out + ", 0)", VOID, x -> x.sort(out, 0)));
            all.add(new Refusal("next(" + out + ", 0)", NONE, x -> x.next(out, 0)));
            all.add(new Refusal("inside(" + out + ", 0)", NONE, x -> x.inside(out, 0)));
            all.add(new Refusal("judge(" + out + ", 0)", NONE, x -> x.judge(out, 0)));
            all.add(new Refusal("judge(0, " + out + ")", NONE, x -> x.judge(0, out)));
            all.add(new Refusal("image(" + out + ")", 0, x -> is(x.image(out))));
            all.add(new Refusal("on(" + out + ")", 0, x -> is(x.on(out))));
            all.add(new Refusal("out(" + out + ", 1, 1)", NONE, x -> x.out(out, 1, 1)));
        }
        for (int what : new int[] {-1, 6, 9, 18, LEAST, MOST}) {
            all.add(new Refusal("sort(0, " + what + ")", VOID, x -> x.sort(0, what)));
        }
        for (int person : new int[] {-1, 30, LEAST, MOST}) {
            all.add(new Refusal("turn(" + person + ")", 0, x -> is(x.turn(person))));
            all.add(new Refusal("leave(" + person + ")", 0, x -> is(x.leave(person))));
            all.add(new Refusal("person(" + person + ", 0)", NONE, x -> x.person(person, 0)));
        }
        for (int what : new int[] {-1, 8, LEAST, MOST}) {
            all.add(new Refusal("person(0, " + what + ")", NONE, x -> x.person(0, what)));
        }
        for (int law : new int[] {-1, 3, 9, LEAST, MOST}) {
            all.add(new Refusal("next(0, " + law + ")", NONE, x -> x.next(0, law)));
            all.add(new Refusal("waits(" + law + ", 0, 2)", NONE, x -> x.waits(law, 0, 2)));
        }
        for (int n : new int[] {0, -1, 241, LEAST, MOST}) {
            all.add(new Refusal("go(" + n + ")", NONE, x -> x.go(n)));
        }
        addRefusalsOfNumbers(all);
        return all;
    }

    private static void addRefusalsOfNumbers(List<Refusal> all) {
        for (int[] comer : new int[][] {{-1, 1}, {201, 1}, {200, 0}, {200, 21}, {LEAST, 1}, {MOST, 1}, {200, LEAST},
            {200, MOST}}) {
            all.add(new Refusal("comer(" + comer[0] + ", " + comer[1] + ")", NONE, x -> x.comer(comer[0], comer[1])));
        }
        for (int k : new int[] {-2, 20, LEAST, MOST}) {
            all.add(new Refusal("book(" + k + ", 0)", NONE, x -> x.book(k, 0)));
            all.add(new Refusal("book(0, " + k + ")", NONE, x -> x.book(0, k)));
            all.add(new Refusal("waits(0, " + k + ", 0)", NONE, x -> x.waits(0, k, 0)));
            all.add(new Refusal("waits(0, 0, " + k + ")", NONE, x -> x.waits(0, 0, k)));
            all.add(new Refusal("inside(0, 30)", NONE, x -> x.inside(0, 30)));
            all.add(new Refusal("count(" + k + ")", NONE, x -> x.count(k)));
        }
        for (int q : new int[] {-1, 17, LEAST, MOST}) {
            all.add(new Refusal("value with q " + q, VOID, x -> x.value(0, 0, 20101, q, 0)));
            all.add(new Refusal("entering with q " + q, VOID, x -> x.entering(0, 0, 201, q)));
            all.add(new Refusal("when with q " + q, NONE, x -> x.when(0, 0, 20, 1, q)));
            all.add(new Refusal("least with q " + q, NONE, x -> x.least(0, 0, 20, q)));
            all.add(new Refusal("send with q " + q, VOID, x -> x.send(0, 0, 20101, q, 1)));
        }
        for (int place : new int[] {-1, 1210000, 10607, 11300, 10013, LEAST, MOST}) {
            all.add(new Refusal("value at " + place, VOID, x -> x.value(0, 0, place, 0, 0)));
            all.add(new Refusal("act at " + place, VOID, x -> x.value(0, 0, place, 0, 1)));
            all.add(new Refusal("send at " + place, VOID, x -> x.send(0, 0, place, 0, 0)));
        }
        for (int place : new int[] {-1, 12100, 113, LEAST, MOST}) {
            all.add(new Refusal("entering at " + place, VOID, x -> x.entering(0, 0, place, 0)));
        }
        for (int t : new int[] {-1, 121, LEAST, MOST}) {
            all.add(new Refusal("when at t " + t, NONE, x -> x.when(0, 0, t, 0, 0)));
            all.add(new Refusal("least at t " + t, NONE, x -> x.least(0, 0, t, 0)));
        }
        for (int row : new int[] {-1, 4826809, LEAST, MOST}) {
            all.add(new Refusal("when with row " + row, NONE, x -> x.when(0, 0, 20, row, 0)));
        }
        for (int c : new int[] {-1, 100, LEAST, MOST}) {
            all.add(new Refusal("send for " + c, VOID, x -> x.send(0, 0, 20101, 0, c)));
            all.add(new Refusal("value with what " + c, VOID, x -> x.value(0, 0, 20101, 0, c)));
        }
        all.add(new Refusal("least for 0", NONE, x -> x.least(0, 0, 0, 0)));
        all.add(new Refusal("least for 61", NONE, x -> x.least(0, 0, 61, 0)));
        all.add(new Refusal("send with 12", VOID, x -> x.send(0, 0, 20606, 0, 0)));
        all.add(new Refusal("out(0, 13, 1)", NONE, x -> x.out(0, 13, 1)));
        all.add(new Refusal("out(0, 1, 13)", NONE, x -> x.out(0, 1, 13)));
        all.add(new Refusal("town() of a text that is none", NONE, LastServed::town));
    }

    private static List<Refusal> withoutATown() {
        List<Refusal> all = always();
        all.add(new Refusal("come(0, 0)", NONE, x -> x.come(0, 0)));
        all.add(new Refusal("go(1)", NONE, x -> x.go(1)));
        all.add(new Refusal("go(240)", NONE, x -> x.go(240)));
        all.add(new Refusal("turn(0)", 0, x -> is(x.turn(0))));
        all.add(new Refusal("leave(0)", 0, x -> is(x.leave(0))));
        all.add(new Refusal("laws()", NONE, LastServed::laws));
        all.add(new Refusal("counter(0, 0)", NONE, x -> x.counter(0, 0)));
        all.add(new Refusal("sort(0, 10)", VOID, x -> x.sort(0, 10)));
        all.add(new Refusal("value", VOID, x -> x.value(0, 0, 10000, 0, 0)));
        all.add(new Refusal("when", NONE, x -> x.when(0, 0, 10, 0, 0)));
        all.add(new Refusal("least", NONE, x -> x.least(0, 0, 10, 0)));
        for (int k = 0; k < 3; k++) {
            int image = k;
            all.add(new Refusal("image(" + k + ")", 0, x -> is(x.image(image))));
            all.add(new Refusal("on(" + k + ")", 0, x -> is(x.on(image))));
        }
        return all;
    }

    private static List<Refusal> withATown() {
        List<Refusal> all = always();
        all.add(new Refusal("on(1), which isn't there", 0, x -> is(x.on(1))));
        all.add(new Refusal("end(17) of 16 bytes", 0, x -> is(x.end(17))));
        all.add(new Refusal("come(3, 0)", NONE, x -> x.come(3, 0)));
        all.add(new Refusal("come(0, 3)", NONE, x -> x.come(0, 3)));
        all.add(new Refusal("comer(4, 1) behind 5", NONE, x -> x.comer(4, 1)));
        all.add(new Refusal("turn of one who isn't INSIDE", 0, x -> is(x.turn(notInside(x, 1)))));
        all.add(new Refusal("turn of one who isn't there", 0, x -> is(x.turn(notInside(x, NONE)))));
        all.add(new Refusal("leave of one who isn't there", 0, x -> is(x.leave(notInside(x, NONE)))));
        all.add(new Refusal("value by a told LAW", VOID, x -> x.value(0, 1, 10000, 0, 0)));
        all.add(new Refusal("entering by a told LAW", VOID, x -> x.entering(0, 1, 100, 0)));
        all.add(new Refusal("when by a told LAW", NONE, x -> x.when(0, 1, 10, 0, 0)));
        all.add(new Refusal("least by a told LAW", NONE, x -> x.least(0, 1, 10, 0)));
        all.add(new Refusal("send by a told LAW", VOID, x -> x.send(0, 1, 10000, 0, 0)));
        return all;
    }

    /** The first number whose state is this one: 1 bowing, 2 waiting, NONE nobody. */
    private static int notInside(LastServed x, int state) {
        for (int person = 0; person < 30; person++) {
            if (x.person(person, 2) == state) {
                return person;
            }
        }
        throw new IllegalArgumentException("nobody is in that state");
    }

    private static List<Refusal> ofAFullShop() {
        List<Refusal> all = always();
        all.add(new Refusal("come(0, 0) with 30", NONE, x -> x.come(0, 0)));
        all.add(new Refusal("come(2, 2) with 30", NONE, x -> x.come(2, 2)));
        all.add(new Refusal("comer(200, 1) with 8", NONE, x -> x.comer(200, 1)));
        all.add(new Refusal("feed with 500 bytes", NONE, RefusedTest::feed));
        all.add(new Refusal("laws()", NONE, LastServed::laws));
        all.add(new Refusal("turn(4), who bows", 0, x -> is(x.turn(4))));
        all.add(new Refusal("on(0)", 0, x -> is(x.on(0))));
        all.add(new Refusal("on(2)", 0, x -> is(x.on(2))));
        return all;
    }

    private static List<Refusal> ofAClosedShop() {
        List<Refusal> all = always();
        all.add(new Refusal("come(0, 0) as it is closed", NONE, x -> x.come(0, 0)));
        all.add(new Refusal("turn(0)", 0, x -> is(x.turn(0))));
        all.add(new Refusal("leave(0)", 0, x -> is(x.leave(0))));
        all.add(new Refusal("laws()", NONE, LastServed::laws));
        all.add(new Refusal("waits without COMERS", NONE, x -> x.waits(0, 0, 0)));
        all.add(new Refusal("lot without COMERS", NONE, LastServed::lot));
        all.add(new Refusal("best without COMERS", NONE, LastServed::best));
        all.add(new Refusal("clear() of nothing", 0, LastServed::clear));
        all.add(new Refusal("go(1) at T", 100, x -> x.go(1)));
        all.add(new Refusal("go(240) at T", 100, x -> x.go(240)));
        return all;
    }

    /** What only asks; the answers themselves are asked for elsewhere. */
    private static List<Refusal> askings() {
        List<Refusal> all = new ArrayList<>();
        all.add(new Refusal("fault", 0, x -> x.fault(0) + x.fault(1) + x.fault(2)));
        all.add(new Refusal("counter", 0, x -> x.counter(0, 3)));
        all.add(new Refusal("sort", 0, x -> x.sort(0, 17)));
        all.add(new Refusal("person", 0, x -> x.person(0, 6)));
        all.add(new Refusal("next", 0, x -> x.next(0, 4) + x.next(1, 2)));
        all.add(new Refusal("inside", 0, x -> x.inside(0, 0)));
        all.add(new Refusal("waits", 0, x -> x.waits(1, 0, 0) + x.waits(5, 0, 3)));
        all.add(new Refusal("lot", 0, LastServed::lot));
        all.add(new Refusal("best", 0, LastServed::best));
        all.add(new Refusal("book", 0, x -> x.book(0, 0) + x.book(NONE, 0)));
        all.add(new Refusal("judge", 0, x -> x.judge(0, 1)));
        all.add(new Refusal("value", 0, x -> x.value(0, 0, 1200606, 16, 1)));
        all.add(new Refusal("entering", 0, x -> x.entering(1, 2, 12012, 3)));
        all.add(new Refusal("when", 0, x -> x.when(1, 2, 120, 4826808, 3)));
        all.add(new Refusal("least", 0, x -> x.least(2, 0, 60, 16)));
        all.add(new Refusal("send", 0, x -> x.send(2, 0, 1200506, 16, 99)));
        all.add(new Refusal("out", 0, x -> x.out(2, 12, 7)));
        all.add(new Refusal("count", 0, x -> x.count(7)));
        return all;
    }
}
