import java.util.HashMap;
import java.util.Map;

/** The document's words once more, from the front: each value asks for what follows it. */
final class PlainOnes {
    final int law;
    final int each;
    final int w;
    final int i;
    final int o;
    final int fee;
    final int bow;
    final int q;
    final Map<Integer, Long> known = new HashMap<>();

    PlainOnes(int law, int each, int w, int i, int o, int fee, int bow, int q) {
        this.law = law;
        this.each = each;
        this.w = w;
        this.i = i;
        this.o = o;
        this.fee = fee;
        this.bow = bow;
        this.q = q;
    }

    long value(int t, int a, int b) {
        if (t == 0) {
            return 0;
        }
        int key = t * 10000 + a * 100 + b;
        Long found = known.get(key);
        if (found == null) {
            found = Math.max(0, Math.max(stay(t, a, b), turn(t, a, b)));
            known.put(key, found);
        }
        return found;
    }

    long turn(int t, int a, int b) {
        return stay(t, a + b, 0) - 1000L * (fee + bow * o);
    }

    long stay(int t, int a, int b) {
        if (t % each != 0) {
            return follows(t, a, b) - 1000L * i;
        }
        int n = a + b + 1;
        long sum = 0;
        for (int served = 0; served < n; served++) {
            boolean may = law == 3 || served == (law == 0 ? 0 : law == 1 ? n - 1 : n / 2);
            if (may) {
                sum += served == a ? 1000L * w : served < a ? follows(t, a - 1, b) : follows(t, a, b - 1);
            }
        }
        return (law == 3 ? sum / n : sum) - 1000L * i;
    }

    long follows(int t, int a, int b) {
        if (a + b == 12) {
            return value(t - 1, a, b);
        }
        return (q * value(t - 1, a, b + 1) + (16 - q) * value(t - 1, a, b)) / 16;
    }

    int act(int t, int a, int b) {
        if (t == 0) {
            return 2;
        }
        long stay = stay(t, a, b);
        long turn = turn(t, a, b);
        if (stay >= turn && stay >= 0) {
            return 0;
        }
        return turn >= 0 ? 1 : 2;
    }

    boolean somebodyTurns(int most) {
        for (int t = 1; t <= most; t++) {
            for (int a = 0; a <= 12; a++) {
                for (int b = 0; a + b <= 12; b++) {
                    if (act(t, a, b) == 1) {
                        return true;
                    }
                }
            }
        }
        return false;
    }
}
