/** Promises 6 and 14: laws and next, and what the small language works out. */
public final class LawsTest {
    private static final int NONE = LastServed.NONE;

    public static void main(String[] args) {
        lawsAreCounted();
        lawsTakeThePlaceOfOthers();
        nextByPlaces();
        nextByNames();
        likeOnesGoToTheLast();
        signsWork();
        worthsAreBounded();
        nextForOthers();
        Check.close("LawsTest");
    }

    private static void lawsAreCounted() {
        LastServed x = new LastServed();
        Check.text(x, "law least 1; law most 2; law least 3; law most 4; law least 5;");
        Check.due("laws()", x.laws(), 5);
        Check.due("count(6)", x.count(6), 5);
        Check.due("count(9)", x.count(9), 0);
    }

    private static void lawsTakeThePlaceOfOthers() {
        LastServed x = ofThree();
        Check.tellLaws(x, "law least came; law least came;");
        Check.due("least came", x.next(0, 4), 0);
        Check.due("least came", x.next(0, 5), 0);
        Check.tellLaws(x, "law most came;");
        Check.due("count(6)", x.count(6), 1);
        Check.due("most came", x.next(0, 4), 2);
        Check.due("a law that isn't there any more is as LAST", x.next(0, 5), 2);
        Check.text(x, "law most x;");
        Check.due("laws with a fault", x.laws(), NONE);
        Check.due("count(6)", x.count(6), 1);
        Check.due("most came still", x.next(0, 4), 2);
    }

    /** Three who came in at 0, 1 and 2, of sorts 1, 0, 2; it is 3 now; nobody is served. */
    private static LastServed ofThree() {
        LastServed x = Check.withTown("counter 0 1 0; sort a 0 30 99 0 0 0; sort b 0 20 99 0 0 0;"
            + "sort c 0 10 99 0 0 0; close 100;");
        x.come(1, 0);
        x.go(1);
        x.come(0, 0);
        x.go(1);
        x.come(2, 0);
        x.go(1);
        return x;
    }

    private static void nextByPlaces() {
        LastServed x = ofThree();
        Check.due("FIRST", x.next(0, 0), 0);
        Check.due("LAST", x.next(0, 1), 2);
        Check.due("MIDDLE of 3", x.next(0, 2), 1);
        x.come(0, 0);
        Check.due("MIDDLE of 4", x.next(0, 2), 2);
        x.turn(0);
        Check.due("FIRST behind a turn", x.next(0, 0), 1);
        Check.due("LAST behind a turn", x.next(0, 1), 0);
        for (int law = 4; law <= 8; law++) {
            Check.due("no such told law is as LAST: " + law, x.next(0, law), 0);
        }
    }

    private static void by(LastServed x, String law, int who) {
        Check.tellLaws(x, "law " + law + ";");
        Check.due(law, x.next(0, 4), who);
    }

    private static void nextByNames() {
        LastServed x = ofThree();
        by(x, "most wait", 0);
        by(x, "least wait", 2);
        by(x, "least sort", 1);
        by(x, "most sort", 2);
        by(x, "most worth", 1);
        by(x, "least worth", 2);
        by(x, "least ahead", 0);
        by(x, "most ahead", 2);
        by(x, "least behind", 2);
        by(x, "most behind", 0);
        by(x, "most (many = 3) * behind", 0);
        by(x, "most (minute = 3) * behind", 0);
        by(x, "most (left = 97) * behind", 0);
        by(x, "most (wait = 2)", 1);
        by(x, "most (worth = 20)", 0);
        x.turn(0);
        by(x, "most turns", 0);
        by(x, "least turns", 2);
        by(x, "most (came = 3)", 0);
        by(x, "most (wait = 3)", 0);
        by(x, "most (ahead = 2)", 0);
        by(x, "most (ahead = 0)", 1);
    }

    private static void likeOnesGoToTheLast() {
        LastServed x = ofThree();
        by(x, "most 1", 2);
        by(x, "least 1", 2);
        by(x, "most (sort < 2)", 1);
        by(x, "least (sort = 2)", 1);
        by(x, "least 0 - 5", 2);
    }

    private static void signsWork() {
        LastServed x = ofThree();
        // the one whose sum is just so much is served: ahead is 0, 1, 2
        by(x, "most (2 + 3 * ahead = 5)", 1);
        by(x, "most (10 - 3 - 2 - ahead = 4)", 1);
        by(x, "most ((2 + 3) * ahead = 5)", 1);
        by(x, "most (10 - (3 - 2) - ahead = 8)", 1);
        by(x, "most (2 * 3 * ahead - 1 = 5)", 1);
        by(x, "most (ahead < 1)", 0);
        by(x, "most (ahead < 0)", 2);
        by(x, "most (1 < ahead) - (0 < ahead)", 2);
        by(x, "least (0 < ahead) - (1 < ahead)", 2);
        by(x, "most ((ahead = 1) = 1)", 1);
        by(x, "most ((((((((ahead = 1))))))))", 1);
        by(x, "most 9999 * ahead - 9998 * ahead * ahead", 1);
        // eight deep, and on each level a comparison, a sum and a product are open at once
        // 2 < 3 - 1 * y turns 0 into 1 and more into 0; eight times over, 0 ahead is 0 and more is 1
        String deep = "5 + 7 * " + "(2 < 3 - 1 * ".repeat(8) + "ahead" + ")".repeat(8);
        by(x, "least " + deep, 0);
        by(x, "most " + deep, 2);
    }

    private static void worthsAreBounded() {
        LastServed x = ofThree();
        by(x, "most (9999 * 9999 = 1000 * 1000) * behind", 0);
        by(x, "most (0 - 9999 * 9999 = 0 - 1000 * 1000) * behind", 0);
        by(x, "most (1000 * 1000 + 1 = 1000 * 1000) * behind", 0);
        by(x, "most (1000 * 1000 + 1 - 1 = 1000 * 1000 - 1) * behind", 0);
        by(x, "most (0 - 1000 * 1000 - 1 = 0 - 1000 * 1000) * behind", 0);
        by(x, "most (0 - 1000 * 1000 - 1 + 1 = 1 - 1000 * 1000) * behind", 0);
        by(x, "most ((0 - 1000 * 1000) * (0 - 1000 * 1000) = 1000 * 1000) * behind", 0);
        by(x, "most (999 * 1001 = 1000 * 1000 - 1) * behind", 0);
    }

    private static void nextForOthers() {
        LastServed x = ofThree();
        Check.due("LOT", x.next(0, 3), NONE);
        Check.due("law -1", x.next(0, -1), NONE);
        Check.due("law 9", x.next(0, 9), NONE);
        Check.due("counter 1", x.next(1, 0), NONE);
        Check.due("counter -1", x.next(-1, 0), NONE);
        x.leave(0);
        x.leave(1);
        Check.due("one alone by MIDDLE", x.next(0, 2), 2);
        x.leave(2);
        for (int law = 0; law <= 8; law++) {
            Check.due("nobody by " + law, x.next(0, law), NONE);
        }
    }
}
