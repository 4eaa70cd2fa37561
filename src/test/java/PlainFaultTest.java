import java.util.ArrayList;
import java.util.List;
import java.util.Random;

/** Promises 4 to 6: texts by chance, right ones and ones with a change or more, held against the plain faults. */
public final class PlainFaultTest {
    private static final Random RANDOM = new Random(1118);
    private static final String[] ANY = {"counter", "sort", "close", "fee", "bow", "law", "least", "most", "came", "wait",
        "worth", "ahead", "behind", "many", "minute", "left", "turns", "a", "b", "abcdefgh", "abcdefghi", "counters", "0",
        "1", "2", "3", "8", "9", "10", "16", "17", "99", "100", "120", "240", "241", "007", "9999", "10000", "4294967297",
        "99999999999999999999", "+", "-", "*", "<", "=", "(", ")", ";"};
    private static final String[] NAMES =
        {"came", "wait", "sort", "worth", "ahead", "behind", "many", "minute", "left", "turns"};

    private static int sound;
    private static int inside;
    private static int atTheEnd;

    public static void main(String[] args) {
        for (int run = 0; run < 30000; run++) {
            boolean ofLaws = run % 2 == 0;
            List<String> tokens = new ArrayList<>();
            if (ofLaws) {
                laws(tokens);
            } else {
                town(tokens);
            }
            for (int k = below(5) / 2; k > 0; k--) {
                change(tokens);
            }
            String text = spoil(joined(tokens));
            if (text.length() <= 500) {
                compare(text, ofLaws);
            }
        }
        Check.due("texts without a fault, " + sound, sound > 5000, true);
        Check.due("texts with one ahead of the end, " + inside, inside > 5000, true);
        Check.due("texts that end too early, " + atTheEnd, atTheEnd > 1000, true);
        Check.close("PlainFaultTest");
    }

    private static int below(int n) {
        return RANDOM.nextInt(n);
    }

    private static void tell(List<String> tokens, String word, int... numbers) {
        tokens.add(word);
        for (int number : numbers) {
            tokens.add(Integer.toString(number));
        }
        tokens.add(";");
    }

    private static void town(List<String> tokens) {
        int names = 0;
        boolean[] told = new boolean[3];
        for (int k = 2 + below(8); k > 0; k--) {
            switch (below(7)) {
                case 0: case 1:
                    tell(tokens, "counter", below(9), 1 + below(9), below(100));
                    break;
                case 2: case 3:
                    tokens.add("sort");
                    tell(tokens, "ab".repeat(1 + names % 3) + (char) ('a' + names), below(17), below(100),
                        1 + below(240), below(10), below(10), below(3));
                    names++;
                    break;
                default:
                    int which = below(3);
                    if (!told[which] || below(4) == 0) {
                        told[which] = true;
                        tell(tokens, which == 0 ? "close" : which == 1 ? "fee" : "bow",
                            which == 0 ? 10 + below(231) : which == 1 ? below(100) : below(10));
                    }
                    break;
            }
        }
    }

    private static void laws(List<String> tokens) {
        for (int k = 1 + below(6); k > 0; k--) {
            tokens.add("law");
            tokens.add(below(2) == 0 ? "least" : "most");
            sum(tokens, below(3) == 0 ? 9 : 2);
            tokens.add(";");
        }
    }

    private static void sum(List<String> tokens, int deep) {
        factor(tokens, deep);
        for (int k = below(5) / 3; k > 0; k--) {
            tokens.add("+-*".substring(below(3)).substring(0, 1));
            factor(tokens, deep - 1);
        }
    }

    private static void factor(List<String> tokens, int deep) {
        if (deep > 0 && below(10) < (deep > 2 ? 9 : 4)) {
            tokens.add("(");
            sum(tokens, deep - 1);
            if (below(3) == 0) {
                tokens.add(below(2) == 0 ? "<" : "=");
                sum(tokens, Math.min(deep - 1, 2));
            }
            tokens.add(")");
        } else {
            tokens.add(below(3) == 0 ? Integer.toString(below(10000)) : NAMES[below(NAMES.length)]);
        }
    }

    private static void change(List<String> tokens) {
        int at = below(tokens.size() + 1);
        switch (below(4)) {
            case 0:
                tokens.add(at, ANY[below(ANY.length)]);
                break;
            case 1:
                if (at < tokens.size()) {
                    tokens.remove(at);
                }
                break;
            case 2:
                if (at < tokens.size()) {
                    tokens.set(at, ANY[below(ANY.length)]);
                }
                break;
            default:
                while (tokens.size() > at && at > 0) {
                    tokens.remove(tokens.size() - 1);
                }
                break;
        }
    }

    /** Between tokens stands what may stand there: nothing, too, where they can't grow together. */
    private static String joined(List<String> tokens) {
        StringBuilder text = new StringBuilder();
        for (String token : tokens) {
            for (int k = below(10) == 0 ? below(3) : 1; k > 0; k--) {
                text.append(below(6) == 0 ? '\n' : ' ');
            }
            boolean closed = text.length() > 0 && " \n+-*<=();".indexOf(text.charAt(text.length() - 1)) < 0;
            boolean sign = !Character.isLetterOrDigit(token.charAt(0));
            text.append(closed && !sign ? " " : "").append(token);
        }
        return below(5) == 0 ? text.append(" \n").toString() : text.toString();
    }

    /** Now and then one byte of the text is another one, or the text ends sooner. */
    private static String spoil(String text) {
        if (text.isEmpty() || below(4) != 0) {
            return text;
        }
        int at = below(text.length());
        if (below(3) == 0) {
            return text.substring(0, at);
        }
        return text.substring(0, at) + (char) below(256) + text.substring(at + 1);
    }

    private static void compare(String text, boolean ofLaws) {
        LastServed x = new LastServed();
        Check.text(x, text);
        PlainFault asTown = new PlainFault(text);
        PlainFault asLaws = new PlainFault(text);
        int townDue = asTown.asTown();
        int lawsDue = asLaws.asLaws();
        Check.due("fault(0) of '" + text + "'", x.fault(0), townDue);
        Check.due("fault(1) of '" + text + "'", x.fault(1), lawsDue);
        int due = ofLaws ? lawsDue : townDue;
        sound += due == LastServed.NONE ? 1 : 0;
        inside += due != LastServed.NONE && due < text.length() ? 1 : 0;
        atTheEnd += due == text.length() ? 1 : 0;
        if (ofLaws) {
            Check.due("laws() of '" + text + "'", x.laws(), lawsDue == LastServed.NONE ? asLaws.lines : LastServed.NONE);
        } else {
            Check.due("town() of '" + text + "'", x.town(), townDue == LastServed.NONE ? asTown.counters : LastServed.NONE);
        }
        Check.due("bytes left of '" + text + "'", x.count(9), due == LastServed.NONE ? 0 : text.length());
    }
}
