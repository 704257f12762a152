/** Promises 16 to 22: deeds, undone, parishes kept. */
public final class DeedTests {
    private static final int NONE = -9, NOTHING = 1;

    public static void main(String[] args) {
        fly();
        rest();
        tieAndCut();
        full();
        undo();
        keepAndOn();
        keepAndOnRefused();
        Script.end();
    }

    private static void fly() {
        Script s = Script.parish("promise 16", "w260400k990k980k100s100");
        s.due("fly(1)", 9).due("count(1)", 1).due("count(2)", 1).due("count(4)", 2).due("count(5)", 0).due("count(6)", 9);
        s.refused("fly(1)", -4).due("fly(0)", 27).due("count(6)", 36).due("fly(2)", 0).due("count(5)", 0).due("count(4)", 7);
        s.due("fly(3)", 0).due("count(5)", 8).due("count(4)", 15).due("count(6)", 36).due("count(1)", 4);
        s.refused("fly(4)", -1).refused("fly(-1)", -1).refused("fly(3)", -4).due("asked()", 0);
        Script.fresh("promise 16, no KITE").refused("fly(0)", -1);
    }

    private static void rest() {
        Script s = Script.parish("promise 17", "w123400k990");
        s.due("rest()", 1).due("rest()", 2).due("count(1)", 2).due("count(2)", 2).due("count(4)", 0).due("fly(0)", 13).due("rest()", 4);
        Script.fresh("promise 17, no KITE").refused("rest()", -4);
    }

    private static void tieAndCut() {
        Script s = Script.parish("promises 18, 19", "w900000k991k990");
        s.told("kite(0, 4)", 38).due("tie(0)", 2).told("kite(0, 3)", 2).told("kite(0, 5)", 36).due("tie(0)", 3).told("kite(0, 5)", 34);
        s.refused("tie(0)", -4).due("cut(0)", 2).due("cut(0)", 1).due("cut(0)", 0).told("kite(0, 4)", 40).refused("cut(0)", -4);
        s.due("count(2)", 5).due("count(1)", 0).told("kite(1, 3)", 0).refused("cut(1)", -4);
        s.refused("tie(2)", -1).refused("tie(-1)", -1).refused("cut(2)", -1).refused("cut(-1)", -1);
        s.due("fly(0)", 0).due("tie(0)", 1).due("cut(0)", 0).told("kite(0, 6)", 0).due("count(5)", 1);
        Script.fresh("promises 18, 19, no KITE").refused("tie(0)", -1).refused("cut(0)", -1);
    }

    private static void full() {
        Script s = Script.parish("promises 16 to 19, FULL", "w000000k100k101k103k100");
        s.due("fly(0)", 0);
        for (int hour = 2; hour <= 40; hour++) {
            s.due("rest()", hour);
        }
        s.due("count(2)", 40).refused("rest()", -2).refused("fly(1)", -2).refused("tie(1)", -2).refused("cut(1)", -2);
        s.refused("fly(0)", -4).refused("tie(2)", -4).refused("cut(3)", -4).refused("fly(9)", -1).refused("tie(9)", -1).refused("cut(9)", -1);
        s.due("undo(39)", 1).due("rest()", 40).due("undo(39)", 1).due("tie(1)", 2).refused("tie(1)", -2);
        s.due("undo(39)", 1).due("cut(1)", 0).refused("cut(1)", -4).due("undo(39)", 1).due("fly(1)", 0).refused("fly(2)", -2);
    }

    private static void undo() {
        Script s = Script.parish("promise 20", "w926400k990k982s100");
        s.due("fly(1)", 0).due("count(5)", 2).due("undo(0)", 1).due("count(5)", 0).due("count(4)", 0).due("count(1)", 0).told("kite(1, 6)", NONE);
        long first = s.digest();
        s.due("tie(0)", 1).due("fly(0)", 0).due("cut(1)", 1).due("rest()", 2).due("fly(1)", 25).due("tie(1)", 2).due("fly(2)", 0);
        s.due("count(2)", 7).due("count(6)", 25).due("undo(7)", 0).due("count(2)", 7).due("undo(4)", 3).due("count(2)", 4).due("count(6)", 0);
        s.told("kite(1, 3)", 1).told("kite(1, 6)", NONE).told("kite(0, 6)", 0).due("count(1)", 2).due("count(4)", 1).due("count(5)", 1).due("fly(1)", 25);
        s.refused("undo(6)", -1).refused("undo(-1)", -1).due("undo(0)", 5).due("undo(0)", 0).refused("undo(1)", -1);
        Script.check("promise 20: after all is undone the digest is what it was: this", s.digest() == first);
        Script.fresh("promise 20, no KITE").due("undo(0)", 0).refused("undo(1)", -1);
    }

    private static void keepAndOn() {
        Script s = Script.parish("promises 21, 22", "w926400k990k982s100");
        s.due("keep(0)", 0).due("fly(1)", 0).due("rest()", 2).due("tie(0)", 1).due("keep(1)", 3).due("count(10)", 2);
        s.due("fly(0)", 25).due("cut(1)", 1).due("count(6)", 25).due("on(1)", 3).due("count(6)", 0).due("count(5)", 2).due("count(1)", 2);
        s.told("kite(0, 3)", 1).told("kite(1, 3)", 2).told("kite(0, 6)", NONE).due("undo(0)", 3).told("kite(0, 3)", 0).due("on(1)", 3).told("kite(0, 3)", 1);
        s.due("fly(0)", 25).due("on(0)", 0).due("count(4)", 0).told("kite(0, 3)", 0).due("count(10)", 2).due("rest()", 1).due("keep(0)", 1).due("on(0)", 1).due("count(1)", 1);
        s.due("undo(0)", 1).due("tie(0)", 1).due("tie(0)", 2).due("fly(2)", 0).due("on(1)", 3).due("undo(2)", 1).told("kite(0, 3)", 0).due("undo(1)", 1).due("count(1)", 1).due("count(4)", 2);
        s.due("on(1)", 3).due("keep(2)", 3).due("count(10)", 3).due("undo(1)", 2).due("on(2)", 3).due("count(2)", 3);
    }

    private static void keepAndOnRefused() {
        Script s = Script.fresh("promises 21, 22, refused");
        s.refused("keep(0)", -4).refused("keep(3)", -1).refused("keep(-1)", -1).refused("on(0)", -3).finds("on(2)", NOTHING).refused("on(3)", -1).refused("on(-1)", -1);
        Script t = Script.parish("promises 21, 22, refused", "w926400k990");
        t.refused("on(0)", -3).due("keep(1)", 0).refused("on(0)", -3).finds("on(0)", NOTHING).refused("keep(3)", -1).refused("on(3)", -1).due("on(1)", 0);
    }
}
