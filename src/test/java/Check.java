/** Counts answers that are as due and prints those that are not. */
final class Check {
    private static int passed = 0;
    private static int failed = 0;

    private Check() {
    }

    static void due(String what, long got, long want) {
        if (got == want) {
            passed++;
            return;
        }
        failed++;
        if (failed <= 200) {
            System.out.println(what + " answered " + got + ", due is " + want);
        }
    }

    /** How many answers were looked at so far. */
    static int answers() {
        return passed + failed;
    }

    static void due(String what, boolean got, boolean want) {
        due(what, got ? 1 : 0, want ? 1 : 0);
    }

    /** Puts a text in place of the one that is there, by feed and end alone. */
    static void text(LastServed x, String text) {
        x.end(0);
        StringBuilder filled = new StringBuilder(text);
        while (filled.length() % 20 != 0) {
            filled.append(' ');
        }
        for (int at = 0; at < filled.length(); at += 20) {
            x.feed(word(filled, at), word(filled, at + 4), word(filled, at + 8), word(filled, at + 12),
                word(filled, at + 16));
        }
        x.end(text.length());
    }

    private static int word(CharSequence text, int at) {
        return text.charAt(at) << 24 | text.charAt(at + 1) << 16 | text.charAt(at + 2) << 8 | text.charAt(at + 3);
    }

    static LastServed withTown(String town) {
        LastServed x = new LastServed();
        tellTown(x, town);
        return x;
    }

    static void tellTown(LastServed x, String town) {
        text(x, town);
        due("fault of " + town, x.fault(0), LastServed.NONE);
        due("town " + town, x.town() > 0, true);
    }

    static void tellLaws(LastServed x, String laws) {
        text(x, laws);
        due("fault of " + laws, x.fault(1), LastServed.NONE);
        due("laws " + laws, x.laws() > 0, true);
    }

    static void close(String name) {
        System.out.println(name);
        System.out.println(passed + " passed, " + failed + " failed");
        if (failed != 0) {
            System.exit(1);
        }
    }
}
