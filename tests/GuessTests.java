/** Promises 30 to 32: tails, kinds, the wind to try, by what was lifted. */
public final class GuessTests {
    private static final int NONE = -9, NOTHING = 1, UNLIKE = 3, SIZE = 5;

    public static void main(String[] args) {
        tails();
        kinds();
        test();
        refused();
        Script.end();
    }

    private static void tails() {
        Script s = Script.parish("promise 30", "w000000k893b893h893j993");
        s.rowOf(0).due("tails(0, 0)", 15).rowOf(0, 2, 8).due("tails(0, 0)", 1).rowOf(0, 2, 4).due("tails(0, 0)", 4).rowOf(0, 2, 2).due("tails(0, 0)", 8);
        s.rowOf(0, 2, 3).due("tails(0, 0)", 0).rowOf(0, 0, 0).due("tails(0, 0)", 15).rowOf(0, 1, 0, 2, 4).due("tails(0, 0)", 4).rowOf(0, 2, 4, 1, 2).due("tails(0, 0)", 0);
        s.rowOf(0, 2, 8).due("tails(1, 0)", 15).rowOf(0, 2, 6).due("tails(1, 0)", 0);
        s.rowOf(0, 3, 2).due("tails(2, 0)", 4 + 8).rowOf(0, 3, 4).due("tails(2, 0)", 1).rowOf(0, 3, 3).due("tails(2, 0)", 2).rowOf(0, 1, 1).due("tails(3, 0)", 15);
        s.rowOf(0, 1, 1, 1, 1).due("tails(3, 0)", 15).rowOf(0, 1, 1, 1, 0).due("tails(3, 0)", 0).told("kite(0, 3)", 3).due("count(2)", 0);
    }

    private static void kinds() {
        // k8 with a TAIL of 1 LIFTS in WIND 4 as the KINDS go: 14, 4, 7, 18, 4, 22
        Script s = Script.parish("promise 31", "w000000c891");
        s.rowOf(0).due("kinds(0, 0)", 63).rowOf(0, 4, 14).due("kinds(0, 0)", 1).rowOf(0, 4, 4).due("kinds(0, 0)", 2 + 16).rowOf(0, 4, 7).due("kinds(0, 0)", 4);
        s.rowOf(0, 4, 18).due("kinds(0, 0)", 8).rowOf(0, 4, 22).due("kinds(0, 0)", 32).rowOf(0, 4, 5).due("kinds(0, 0)", 0);
        s.rowOf(0, 0, 0).due("kinds(0, 0)", 1 + 2 + 4 + 8 + 32).rowOf(0, 0, 1).due("kinds(0, 0)", 16).rowOf(0, 0, 0, 4, 4).due("kinds(0, 0)", 2).rowOf(0, 7, 0).due("kinds(0, 0)", 4);
        s.due("tie(0)", 2).rowOf(0, 4, 12).due("kinds(0, 0)", 1).rowOf(0, 4, 18).due("kinds(0, 0)", 8).rowOf(0, 9, 99).due("kinds(0, 0)", 0);
    }

    private static void test() {
        Script s = Script.parish("promise 32", "w000000c891");
        // all KINDS: WIND 0: five nothings; 1: 2 0 1 4 1 5; 2: 6 2 3 8 2 10
        s.rowOf(0).answers("test(0, 0)", 1, 2).rowOf(0, 0, 0).answers("test(0, 0)", 1, 1).rowOf(0, 4, 4).answers("test(0, 0)", 0, 1).rowOf(0, 4, 14).answers("test(0, 0)", 0, 1);
        s.rowOf(0, 4, 5).refused("test(0, 0)", NONE);
        // with a TAIL of 3 and 1 WIDE three KINDS LIFT nothing in any WIND; the others are apart from these by WIND 2
        Script t = Script.parish("promise 32, never apart", "w000000k193");
        t.rowOf(0).answers("test(0, 0)", 2, 3).rowOf(0, 9, 0).answers("test(0, 0)", 0, 3);
    }

    private static void refused() {
        for (String call : new String[] {"tails", "kinds", "test"}) {
            Script s = Script.parish("promises 30 to 32, refused: " + call, "w000000k891");
            s.due("row(1, 0)", 0).due("tear(1)", 1).refused(call + "(0, 1)", -3).finds(call + "(0, 1)", NOTHING);
            s.refused(call + "(1, 1)", -1).refused(call + "(-1, 1)", -1).refused(call + "(0, 6)", -1).refused(call + "(0, -1)", -1);
            s.rowOf(1, 3).refused(call + "(0, 1)", -3).finds(call + "(0, 1)", SIZE).rowOf(1, -3, 3, 3).finds(call + "(0, 1)", SIZE);
            s.rowOf(1, 10, 3).refused(call + "(0, 1)", -3).finds(call + "(0, 1)", UNLIKE).rowOf(1, -1, 3).finds(call + "(0, 1)", UNLIKE);
            s.rowOf(1, 3, 100).finds(call + "(0, 1)", UNLIKE).rowOf(1, 3, -1).finds(call + "(0, 1)", UNLIKE).rowOf(1, 3, 99, 3, 100).finds(call + "(0, 1)", UNLIKE);
            s.rowOf(1, 3, 98, 10, 1).finds(call + "(0, 1)", UNLIKE).rowOf(1, 9, 99).due(call + "(0, 1)", call.equals("test") ? NONE : 0);
            Script.fresh("promises 30 to 32, no KITE").refused(call + "(0, 1)", -1);
        }
    }
}
