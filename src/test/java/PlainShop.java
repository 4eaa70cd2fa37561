import java.util.ArrayList;
import java.util.List;

/** The shop written once more from the document's words, with lists, to be held against the class. */
final class PlainShop {
    /** What a told law asks of one who stands at a place. */
    interface Law {
        long worth(One one, int place, int many, PlainShop shop);
    }

    static final class One {
        int number;
        int sort;
        int counter;
        int state;
        int first;
        int last = -1;
        int turns;
        int till = -1;
    }

    final int[][] counters;
    final int[][] sorts;
    final int close;
    final int fee;
    final int bow;
    final List<Law> laws;
    final List<Boolean> most;
    final One[] people = new One[30];
    final List<List<One>> inside = new ArrayList<>();
    final int[] stock = new int[3];
    final int[] busy = new int[3];
    final long[][] told = new long[5][7];
    final List<int[]> book = new ArrayList<>();
    int minute;
    long x;

    PlainShop(int[][] counters, int[][] sorts, int close, int fee, int bow, List<Law> laws, List<Boolean> most) {
        this.counters = counters;
        this.sorts = sorts;
        this.close = close;
        this.fee = fee;
        this.bow = bow;
        this.laws = laws;
        this.most = most;
        for (int k = 0; k < counters.length; k++) {
            inside.add(new ArrayList<>());
            stock[k] = counters[k][2];
        }
    }

    int lot(int below) {
        x = (x * 1103515245L + 12345L) & 0x7fffffffL;
        return (int) (x / 256 % below);
    }

    int come(int sort, int counter, boolean in) {
        if (minute >= close) {
            return -1;
        }
        for (int k = 0; k < 30; k++) {
            if (people[k] == null) {
                One one = new One();
                one.number = k;
                one.sort = sort;
                one.counter = counter;
                one.first = minute;
                one.state = 2;
                people[k] = one;
                told[sort][0]++;
                if (in) {
                    enter(one);
                }
                return k;
            }
        }
        return -1;
    }

    void enter(One one) {
        one.state = 0;
        one.till = -1;
        one.last = minute;
        told[one.sort][6] -= fee;
        inside.get(one.counter).add(one);
    }

    void turn(One one) {
        inside.get(one.counter).remove(one);
        one.turns++;
        if (bow == 0) {
            enter(one);
        } else {
            one.state = 1;
            one.till = minute + bow;
        }
    }

    void giveUp(One one) {
        inside.get(one.counter).remove(one);
        people[one.number] = null;
        told[one.sort][2]++;
    }

    One next(int counter, int law) {
        List<One> there = inside.get(counter);
        if (there.isEmpty()) {
            return null;
        }
        int n = there.size();
        if (law == 0) {
            return there.get(0);
        }
        if (law == 2) {
            return there.get(n / 2);
        }
        if (law < 4 || law - 4 >= laws.size()) {
            return there.get(n - 1);
        }
        One found = null;
        long best = 0;
        for (int place = n - 1; place >= 0; place--) {
            long worth = laws.get(law - 4).worth(there.get(place), place, n, this);
            if (found == null || (most.get(law - 4) ? worth > best : worth < best)) {
                best = worth;
                found = there.get(place);
            }
        }
        return found;
    }

    void pass() {
        for (int sort = 0; sort < sorts.length; sort++) {
            if (lot(16) < sorts[sort][0]) {
                int to = 0;
                for (int k = 1; k < counters.length; k++) {
                    to = inside.get(k).size() < inside.get(to).size() ? k : to;
                }
                come(sort, to, sorts[sort][5] < 2 || inside.get(to).isEmpty());
            }
        }
        for (One one : people) {
            if (one != null && (one.state == 2 && inside.get(one.counter).isEmpty()
                || one.state == 1 && one.till == minute)) {
                enter(one);
            }
        }
        for (One one : people) {
            if (one != null && one.state == 0 && sorts[one.sort][5] == 1) {
                List<One> there = inside.get(one.counter);
                if (there.get(there.size() - 1) != one) {
                    turn(one);
                }
            }
        }
        for (int k = 0; k < counters.length; k++) {
            List<One> there = inside.get(k);
            if (busy[k] <= minute && stock[k] > 0 && !there.isEmpty()) {
                serve(k, counters[k][0] == 3 ? there.get(lot(there.size())) : next(k, counters[k][0]));
            }
        }
        minute++;
        for (One one : people) {
            if (one == null) {
                continue;
            }
            if (minute == close || minute - one.first == sorts[one.sort][2]) {
                giveUp(one);
            } else {
                told[one.sort][6] -= sorts[one.sort][one.state == 0 ? 3 : 4];
            }
        }
    }

    private void serve(int counter, One one) {
        List<One> there = inside.get(counter);
        book.add(new int[] {minute, counter, one.number, there.size(), there.indexOf(one)});
        if (book.size() > 20) {
            book.remove(0);
        }
        there.remove(one);
        people[one.number] = null;
        stock[counter]--;
        busy[counter] = minute + counters[counter][1];
        long wait = minute - one.first;
        long[] of = told[one.sort];
        of[1]++;
        of[3] += wait;
        of[4] += wait * wait;
        of[5] = Math.max(of[5], wait);
        of[6] += sorts[one.sort][1];
    }

    int judge(int counter, int law) {
        int wrong = 0;
        for (int[] entry : book) {
            int due = law == 0 ? 0 : law == 1 ? entry[3] - 1 : entry[3] / 2;
            wrong += entry[1] == counter && entry[4] != due ? 1 : 0;
        }
        return wrong;
    }
}
