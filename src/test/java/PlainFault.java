import java.math.BigInteger;
import java.util.ArrayDeque;
import java.util.ArrayList;
import java.util.Deque;
import java.util.HashSet;
import java.util.List;
import java.util.Set;
import java.util.regex.Matcher;
import java.util.regex.Pattern;

/** The FAULT of a text once more: tokens cut by a pattern, then walked with what may come next, without recursion. */
final class PlainFault {
    private static final Pattern TOKEN = Pattern.compile("[a-z]+|[0-9]+|[-+*<=();]");
    private static final Set<String> KEPT = Set.of("counter", "sort", "close", "fee", "bow");
    private static final Set<String> NAMES =
        Set.of("came", "wait", "sort", "worth", "ahead", "behind", "many", "minute", "left", "turns");

    /** What a part of a town asks for behind its first word: a name, or a number between two. */
    private static final String[] COUNTER = {"0 8", "1 9", "0 99", ";"};
    private static final String[] SORT = {"name", "0 16", "0 99", "1 240", "0 9", "0 9", "0 2", ";"};
    private static final String[] CLOSE = {"10 240", ";"};
    private static final String[] FEE = {"0 99", ";"};
    private static final String[] BOW = {"0 9", ";"};

    private final String text;
    private final List<String> tokens = new ArrayList<>();
    private final List<Integer> places = new ArrayList<>();
    int counters;
    int sorts;
    int lines;

    /** A byte that begins no token is kept as one that can stand nowhere, and nothing behind it counts. */
    PlainFault(String text) {
        this.text = text;
        Matcher matcher = TOKEN.matcher(text);
        int at = 0;
        while (at < text.length()) {
            if (text.charAt(at) == 32 || text.charAt(at) == 10) {
                at++;
                continue;
            }
            boolean found = matcher.region(at, text.length()).lookingAt();
            tokens.add(found ? matcher.group() : "");
            places.add(at);
            at = found ? matcher.end() : text.length();
        }
    }

    private static boolean isBetween(String token, int low, int high) {
        if (!token.matches("[0-9]+")) {
            return false;
        }
        BigInteger told = new BigInteger(token);
        return told.compareTo(BigInteger.valueOf(low)) >= 0 && told.compareTo(BigInteger.valueOf(high)) <= 0;
    }

    int asTown() {
        Deque<String> asked = new ArrayDeque<>();
        Set<String> told = new HashSet<>();
        Set<String> names = new HashSet<>();
        for (int k = 0; k < tokens.size(); k++) {
            String token = tokens.get(k);
            if (asked.isEmpty()) {
                String[] part = partOf(token, told);
                if (part == null) {
                    return places.get(k);
                }
                asked.addAll(List.of(part));
                continue;
            }
            String due = asked.remove();
            if (!fits(token, due, names)) {
                return places.get(k);
            }
        }
        return !asked.isEmpty() || counters == 0 || sorts == 0 ? text.length() : LastServed.NONE;
    }

    private String[] partOf(String word, Set<String> told) {
        switch (word) {
            case "counter": return ++counters > 3 ? null : COUNTER;
            case "sort": return ++sorts > 5 ? null : SORT;
            case "close": return told.add(word) ? CLOSE : null;
            case "fee": return told.add(word) ? FEE : null;
            case "bow": return told.add(word) ? BOW : null;
            default: return null;
        }
    }

    private static boolean fits(String token, String due, Set<String> names) {
        if (due.equals(";")) {
            return token.equals(";");
        }
        if (due.equals("name")) {
            return token.matches("[a-z]{1,8}") && !KEPT.contains(token) && names.add(token);
        }
        String[] ends = due.split(" ");
        return isBetween(token, Integer.parseInt(ends[0]), Integer.parseInt(ends[1]));
    }

    int asLaws() {
        Deque<Boolean> compared = new ArrayDeque<>();
        String asked = "law";
        for (int k = 0; k < tokens.size(); k++) {
            String next = step(asked, tokens.get(k), compared);
            if (next == null) {
                return places.get(k);
            }
            asked = next;
        }
        return asked.equals("law") && lines > 0 ? LastServed.NONE : text.length();
    }

    /** What is asked for behind a token; null if it can't stand there. */
    private String step(String asked, String token, Deque<Boolean> compared) {
        switch (asked) {
            case "law":
                return token.equals("law") && lines < 5 ? "kind" : null;
            case "kind":
                return token.equals("least") || token.equals("most") ? "factor" : null;
            case "factor":
                if (token.equals("(") && compared.size() < 8) {
                    compared.push(false);
                    return "factor";
                }
                return NAMES.contains(token) || isBetween(token, 0, 9999) ? "sign" : null;
            default:
                return sign(token, compared);
        }
    }

    private String sign(String token, Deque<Boolean> compared) {
        switch (token) {
            case "+": case "-": case "*":
                return "factor";
            case "<": case "=":
                if (compared.isEmpty() || compared.pop()) {
                    return null;
                }
                compared.push(true);
                return "factor";
            case ")":
                if (compared.isEmpty()) {
                    return null;
                }
                compared.pop();
                return "sign";
            case ";":
                if (!compared.isEmpty()) {
                    return null;
                }
                lines++;
                return "law";
            default:
                return null;
        }
    }
}
