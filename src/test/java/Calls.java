/** Every method of the face by a number, so that tests can call any of them with any arguments. */
final class Calls {
    static final int METHODS = 31;
    static final String[] NAMES = {"feed", "end", "fault", "town", "laws", "counter", "sort", "seed", "come", "turn",
        "leave", "person", "next", "inside", "go", "comer", "clear", "waits", "lot", "best", "book", "judge", "value",
        "entering", "when", "least", "send", "out", "image", "on", "count"};

    private Calls() {
    }

    static long call(LastServed x, int method, int a, int b, int c, int d, int e) {
        switch (method) {
            case 0: return x.feed(a, b, c, d, e);
            case 1: return x.end(a) ? 1 : 0;
            case 2: return x.fault(a);
            case 3: return x.town();
            case 4: return x.laws();
            case 5: return x.counter(a, b);
            case 6: return x.sort(a, b);
            case 7: return x.seed(a) ? 1 : 0;
            case 8: return x.come(a, b);
            case 9: return x.turn(a) ? 1 : 0;
            case 10: return x.leave(a) ? 1 : 0;
            case 11: return x.person(a, b);
            case 12: return x.next(a, b);
            case 13: return x.inside(a, b);
            case 14: return x.go(a);
            case 15: return x.comer(a, b);
            case 16: return x.clear();
            case 17: return x.waits(a, b, c);
            case 18: return x.lot();
            case 19: return x.best();
            case 20: return x.book(a, b);
            case 21: return x.judge(a, b);
            case 22: return x.value(a, b, c, d, e);
            case 23: return x.entering(a, b, c, d);
            case 24: return x.when(a, b, c, d, e);
            case 25: return x.least(a, b, c, d);
            case 26: return x.send(a, b, c, d, e);
            case 27: return x.out(a, b, c);
            case 28: return x.image(a) ? 1 : 0;
            case 29: return x.on(a) ? 1 : 0;
            default: return x.count(a);
        }
    }

    /** Whether a method may change what can be seen, if it isn't refused. */
    static boolean changes(int method) {
        switch (NAMES[method]) {
            case "feed": case "end": case "town": case "laws": case "seed": case "come": case "turn": case "leave":
            case "go": case "comer": case "clear": case "image": case "on":
                return true;
            default:
                return false;
        }
    }

    /** Whether an answer of a method that changes something says that it was refused. */
    static boolean isRefusal(int method, long answer) {
        switch (NAMES[method]) {
            case "end": case "seed": case "turn": case "leave": case "image": case "on":
                return answer == 0;
            default:
                return answer == LastServed.NONE;
        }
    }
}
