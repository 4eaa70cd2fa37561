/** The lots as the document tells them, and seeds whose lots are as a test needs them. */
final class Lots {
    private long x;

    Lots(long seed) {
        x = seed;
    }

    int below(int n) {
        x = (x * 1103515245L + 12345L) & 0x7fffffffL;
        return (int) (x / 256 % n);
    }

    long x() {
        return x;
    }

    /** The least seed whose first lots below 16 are just these; -1 stands for any. */
    static int seedOf(int... lots) {
        for (int seed = 0; seed <= 1000000; seed++) {
            Lots drawn = new Lots(seed);
            boolean fits = true;
            for (int k = 0; k < lots.length && fits; k++) {
                int lot = drawn.below(16);
                fits = lots[k] < 0 || lot == lots[k];
            }
            if (fits) {
                return seed;
            }
        }
        throw new IllegalArgumentException("no seed has these lots");
    }

    /**
     * The least seed for which of the last one of so many sorts, with A 8, one comes in the minutes with a 1 and
     * nobody in those with a 0; of the others whatever it may be.
     */
    static int seedOf(int sorts, String comings) {
        for (int seed = 0; seed <= 1000000; seed++) {
            Lots drawn = new Lots(seed);
            boolean fits = true;
            for (int k = 0; k < sorts * comings.length() && fits; k++) {
                boolean comes = drawn.below(16) < 8;
                fits = k % sorts < sorts - 1 || comes == (comings.charAt(k / sorts) == '1');
            }
            if (fits) {
                return seed;
            }
        }
        throw new IllegalArgumentException("no seed has these lots");
    }
}
