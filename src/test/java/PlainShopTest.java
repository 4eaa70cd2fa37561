import java.util.ArrayList;
import java.util.List;
import java.util.Random;

/** Promises 5 to 16, 22, 23: towns and laws by chance, held against the plain shop minute by minute. */
public final class PlainShopTest {
    private static final Random RANDOM = new Random(2026);
    private static final String[] NAMES =
        {"came", "wait", "sort", "worth", "ahead", "behind", "many", "minute", "left", "turns"};

    public static void main(String[] args) {
        for (int run = 0; run < 400; run++) {
            oneTown(run);
        }
        Check.close("PlainShopTest");
    }

    private static int below(int n) {
        return RANDOM.nextInt(n);
    }

    private static PlainShop.Law named(int name) {
        return (one, place, many, shop) -> {
            switch (name) {
                case 0: return one.last;
                case 1: return shop.minute - one.first;
                case 2: return one.sort;
                case 3: return shop.sorts[one.sort][1];
                case 4: return place;
                case 5: return many - 1 - place;
                case 6: return many;
                case 7: return shop.minute;
                case 8: return shop.close - shop.minute;
                default: return one.turns;
            }
        };
    }

    private static long bounded(long worth) {
        return Math.max(-1000000, Math.min(1000000, worth));
    }

    /** Writes an E, T or F by chance behind the text, and answers what it is worth. */
    private static PlainShop.Law sum(StringBuilder text, int depth) {
        PlainShop.Law left = product(text, depth);
        for (int k = below(3); k > 0; k--) {
            boolean plus = below(2) == 0;
            text.append(plus ? " + " : "-");
            PlainShop.Law first = left;
            PlainShop.Law second = product(text, depth);
            left = (o, p, m, s) -> bounded(first.worth(o, p, m, s) + (plus ? 1 : -1) * second.worth(o, p, m, s));
        }
        return left;
    }

    private static PlainShop.Law product(StringBuilder text, int depth) {
        PlainShop.Law left = factor(text, depth);
        for (int k = below(4) / 2; k > 0; k--) {
            text.append("*");
            PlainShop.Law first = left;
            PlainShop.Law second = factor(text, depth);
            left = (o, p, m, s) -> bounded(first.worth(o, p, m, s) * second.worth(o, p, m, s));
        }
        return left;
    }

    private static PlainShop.Law factor(StringBuilder text, int depth) {
        if (depth < 3 && below(4) == 0) {
            text.append('(');
            PlainShop.Law left = sum(text, depth + 1);
            int sign = below(3);
            PlainShop.Law all = left;
            if (sign > 0) {
                text.append(sign == 1 ? '<' : '=');
                PlainShop.Law right = sum(text, depth + 1);
                all = (o, p, m, s) -> {
                    long a = left.worth(o, p, m, s);
                    long b = right.worth(o, p, m, s);
                    return (sign == 1 ? a < b : a == b) ? 1 : 0;
                };
            }
            text.append(')');
            return all;
        }
        if (below(3) == 0) {
            int number = below(2) == 0 ? below(10) : below(10000);
            text.append(number);
            return (o, p, m, s) -> number;
        }
        int name = below(NAMES.length);
        text.append(NAMES[name]);
        return named(name);
    }

    private static int[][] counters(StringBuilder text) {
        int[][] all = new int[1 + below(3)][];
        for (int k = 0; k < all.length; k++) {
            all[k] = new int[] {below(9), 1 + below(below(2) == 0 ? 3 : 9), below(5) == 0 ? below(10) : 50 + below(50)};
            tell(text.append("counter"), all[k]);
        }
        return all;
    }

    private static int[][] sorts(StringBuilder text) {
        int[][] all = new int[1 + below(5)][];
        for (int k = 0; k < all.length; k++) {
            all[k] = new int[] {below(below(3) == 0 ? 17 : 7), below(100), 1 + below(below(2) == 0 ? 20 : 240), below(10),
                below(10), below(3)};
            tell(text.append("sort ").append((char) ('a' + k)), all[k]);
        }
        return all;
    }

    private static void tell(StringBuilder text, int... numbers) {
        for (int number : numbers) {
            text.append(' ').append(number);
        }
        text.append(';');
    }

    private static void oneTown(int run) {
        List<PlainShop.Law> laws = new ArrayList<>();
        List<Boolean> most = new ArrayList<>();
        StringBuilder lawText = new StringBuilder();
        for (int k = below(6); k > 0; k--) {
            most.add(below(2) == 0);
            StringBuilder line = new StringBuilder(most.get(most.size() - 1) ? "law most " : "law least ");
            laws.add(sum(line, 0));
            if (lawText.length() + line.length() > 490) {
                laws.remove(laws.size() - 1);
                most.remove(most.size() - 1);
                break;
            }
            lawText.append(line).append(';');
        }
        StringBuilder text = new StringBuilder();
        int[][] counters = counters(text);
        int[][] sorts = sorts(text);
        int close = 10 + below(231);
        int fee = below(100);
        int bow = below(3) == 0 ? 0 : below(10);
        tell(text.append("close"), close);
        tell(text.append("fee"), fee);
        tell(text.append("bow"), bow);
        LastServed x = new LastServed();
        if (!laws.isEmpty()) {
            Check.tellLaws(x, lawText.toString());
        }
        Check.tellTown(x, text.toString());
        PlainShop plain = new PlainShop(counters, sorts, close, fee, bow, laws, most);
        int seed = below(1000001);
        x.seed(seed);
        plain.x = seed;
        goOn(run, x, plain);
    }

    private static void goOn(int run, LastServed x, PlainShop plain) {
        for (int k = 0; k < 120; k++) {
            int who = below(31) - 1 < 0 ? 30 : below(30);
            PlainShop.One one = who < 30 ? plain.people[who] : null;
            switch (below(8)) {
                case 0:
                    int sort = below(plain.sorts.length);
                    int counter = below(plain.counters.length);
                    Check.due("come in run " + run, x.come(sort, counter), plain.come(sort, counter, true));
                    break;
                case 1:
                    boolean turns = one != null && one.state == 0;
                    if (turns) {
                        plain.turn(one);
                    }
                    Check.due("turn in run " + run, x.turn(who), turns);
                    break;
                case 2:
                    if (below(3) == 0) {
                        if (one != null) {
                            plain.giveUp(one);
                        }
                        Check.due("leave in run " + run, x.leave(who), one != null);
                    }
                    break;
                default:
                    int n = 1 + below(4);
                    for (int m = 0; m < n && plain.minute < plain.close; m++) {
                        plain.pass();
                    }
                    Check.due("go in run " + run, x.go(n), plain.minute);
                    break;
            }
            compare(" in run " + run + " at " + plain.minute, x, plain);
        }
    }

    private static void compare(String at, LastServed x, PlainShop plain) {
        int many = 0;
        for (int k = 0; k < 30; k++) {
            PlainShop.One one = plain.people[k];
            many += one == null ? 0 : 1;
            int[] facts = one == null ? new int[] {-1, -1, -1, -1, -1, -1, -1, -1}
                : new int[] {one.sort, one.counter, one.state, one.first, one.last, one.turns,
                    plain.inside.get(one.counter).indexOf(one), one.till};
            for (int what = 0; what < 8; what++) {
                Check.due("person(" + k + ", " + what + ")" + at, x.person(k, what), facts[what]);
            }
        }
        Check.due("count(7)" + at, x.count(7), many);
        for (int k = 0; k < plain.counters.length; k++) {
            Check.due("STOCK of " + k + at, x.counter(k, 2), plain.stock[k]);
            Check.due("INSIDE of " + k + at, x.counter(k, 3), plain.inside.get(k).size());
            Check.due("busy of " + k + at, x.counter(k, 4), plain.busy[k]);
            for (int law = 0; law <= 8; law++) {
                PlainShop.One next = law == 3 ? null : plain.next(k, law);
                Check.due("next(" + k + ", " + law + ")" + at, x.next(k, law), next == null ? -1 : next.number);
            }
            for (int law = 0; law <= 2; law++) {
                Check.due("judge(" + k + ", " + law + ")" + at, x.judge(k, law), plain.judge(k, law));
            }
        }
        for (int sort = 0; sort < plain.sorts.length; sort++) {
            long[] told = plain.told[sort];
            for (int what = 0; what < 7; what++) {
                Check.due("sort(" + sort + ", 1" + what + ")" + at, x.sort(sort, 10 + what), told[what]);
            }
            long unlike = told[1] == 0 ? LastServed.VOID
                : (told[1] * told[4] - told[3] * told[3]) / (told[1] * told[1]);
            Check.due("UNLIKE of " + sort + at, x.sort(sort, 17), unlike);
        }
        Check.due("book" + at, x.book(-1, 0), plain.book.size());
        for (int k = 0; k < plain.book.size(); k++) {
            for (int what = 0; what < 5; what++) {
                Check.due("book(" + k + ", " + what + ")" + at, x.book(k, what), plain.book.get(k)[what]);
            }
        }
    }
}
