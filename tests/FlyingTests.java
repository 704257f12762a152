/** Promises 23 to 26: the most, the school, flyings told, when. */
public final class FlyingTests {
    private static final int NONE = -9, NOTHING = 1, UNLIKE = 3, SIZE = 5;
    private static final String TWO = "w260420k891k490";

    public static void main(String[] args) {
        most();
        mostFirst();
        mostNobodyLifted();
        mostRefused();
        school();
        schoolRefused();
        flown();
        flownRefused();
        when();
        Script.end();
    }

    private static void most() {
        Script s = Script.parish("promise 23", TWO);
        // k8 with TAIL 1: 6, 22, 0, 14; k4: 4, 12, 0, 8
        s.due("most(0, 0)", 0).holds(0).due("most(1, 0)", 6).holds(0, 0).due("most(2, 1)", 26).holds(1, 1, 0);
        s.due("most(3, 1)", 26).holds(1, 1, 0, NONE).due("most(4, 1)", 30).holds(1, NONE, 0, NONE, 1).due("most(5, 1)", 30).holds(1, NONE, 0, NONE, 1, NONE);
        s.due("most(2, 1)", 26).holds(1, 1, 0).due("duel(6)", s.read("duel(5)")).due("most(3, 1)", 26).due("most(0, 1)", 0).holds(1);
        s.due("count(1)", 0).due("count(2)", 0).due("count(6)", 0).due("fly(0)", 6).due("most(1, 2)", 12).holds(2, 1).due("most(4, 2)", 12).holds(2, 1, NONE, NONE, NONE);
        s.due("fly(1)", 12).due("most(3, 2)", 0).holds(2, NONE, NONE, NONE).due("count(6)", 18);
        s.rowOf(3, 1, 2, 3, 4, 5, 6, 7, 8).due("most(1, 3)", 0).holds(3, NONE);
    }

    private static void mostFirst() {
        Script s = Script.parish("promise 23, the first", "w222200k490k490k490");
        s.due("most(1, 0)", 4).holds(0, 0).due("most(2, 0)", 8).holds(0, 0, 1).due("most(4, 0)", 12).holds(0, NONE, 0, 1, 2);
        s.due("most(5, 0)", 12).holds(0, NONE, NONE, 0, 1, 2).due("fly(1)", 4).due("most(3, 0)", 8).holds(0, NONE, 0, 2);
        Script t = Script.parish("promise 23, none for nothing", "w020000k490k103");
        t.due("most(1, 0)", 0).holds(0, NONE).due("most(2, 0)", 4).holds(0, NONE, 0);
    }

    private static void mostNobodyLifted() {
        Script s = Script.parish("promise 23, nobody LIFTED", "w921000k820k990");
        // k8 is LIFTED in 9, PAYS 8 in 2, 4 in 1; k9 is LIFTED in 9, PAYS 9 in 2, 4 in 1
        s.due("most(1, 0)", 0).holds(0, NONE).due("most(2, 0)", 9).holds(0, NONE, 1).due("most(3, 0)", 13).holds(0, NONE, 1, 0);
    }

    private static void mostRefused() {
        Script s = Script.parish("promise 23, refused", TWO);
        s.refused("most(6, 0)", -1).refused("most(-1, 0)", -1).refused("most(0, 6)", -1).refused("most(0, -1)", -1);
        Script.fresh("promise 23, no KITE").refused("most(5, 5)", -4).refused("most(6, 5)", -1).refused("most(5, 6)", -1);
    }

    private static void school() {
        Script s = Script.parish("promise 24", TWO);
        s.due("school(0)", 2).holds(0, 1, 0).due("fly(1)", 4).due("school(0)", 1).holds(0, 0).due("fly(0)", 22).due("school(0)", 0).holds(0);
        Script.parish("promise 24, nought", "w260400k990").due("school(4)", 0).holds(4);
        Script.parish("promise 24, just", "w260430k891k490").due("school(4)", 4).holds(4, NONE, 0, NONE, 1);
        Script.parish("promise 24, one more", "w260431k891k490").rowOf(4, 7, 8).due("school(4)", NONE).holds(4, 7, 8);
        Script.parish("promise 24, at once", "w260406k891k490").due("school(4)", 1).holds(4, 0);
        Script.parish("promise 24, not by the LIFTED", "w921008k820k990").due("school(4)", 2).holds(4, NONE, 1);
        Script.parish("promise 24, five", "w111105k250k250k250k250k290").due("school(4)", 5).holds(4, 0, 1, 2, 3, 4);
        Script.parish("promise 24, six", "w111106k250k250k250k250k290k290").due("school(4)", NONE);
    }

    private static void schoolRefused() {
        Script.fresh("promise 24, no KITE").refused("school(0)", -4).refused("school(6)", -1).refused("school(-1)", -1);
        Script.parish("promise 24, refused", TWO).refused("school(6)", -1).refused("school(-1)", -1);
    }

    private static void flown() {
        Script s = Script.parish("promise 25", "w926900k820k490b100");
        s.rowOf(0).answers("flown(0)", 0, 0).rowOf(0, 0, 1).answers("flown(0)", 4, 1).rowOf(0, 1, 0).answers("flown(0)", 18 + 8, 0);
        s.rowOf(0, 2, 0, NONE, 1).answers("flown(0)", 8 + 18, 4).rowOf(0, NONE, NONE, NONE, 0, NONE, 1).answers("flown(0)", 4, 1);
        s.due("rest()", 1).rowOf(0, 1, 2, 0).answers("flown(0)", 4, 5).due("count(6)", 0).due("count(4)", 0);
        s.due("fly(1)", 4).rowOf(0, 0, NONE, NONE, 2).answers("flown(0)", 0, 5).due("row(1, 20)", 20);
        for (int h = 0; h < 20; h++) {
            s.told("lay(1, " + h + ", -9)", 0);
        }
        s.answers("flown(1)", 0, 0).told("lay(1, 19, 0)", NONE).answers("flown(1)", 8, 0).told("lay(1, 19, -9)", 0).told("lay(1, 18, 0)", NONE).answers("flown(1)", 0, 1);
    }

    private static void flownRefused() {
        Script s = Script.fresh("promise 25, no KITE");
        s.refused("flown(0)", -4).refused("flown(6)", -1).refused("flown(-1)", -1);
        Script t = Script.parish("promise 25, refused", "w222200k490k490");
        t.refused("flown(6)", -1).finds("flown(0)", NOTHING).due("row(0, 21)", 21).refused("flown(0)", -3).finds("flown(0)", SIZE);
        t.rowOf(0, 2).finds("flown(0)", UNLIKE).rowOf(0, -1).finds("flown(0)", UNLIKE).rowOf(0, -8).finds("flown(0)", UNLIKE).rowOf(0, -10).finds("flown(0)", UNLIKE);
        t.rowOf(0, 0, NONE, 0).finds("flown(0)", UNLIKE).refused("flown(0)", -3).rowOf(0, 0, 1, 6).finds("flown(0)", UNLIKE);
        t.rowOf(0, Integer.MAX_VALUE).finds("flown(0)", UNLIKE).rowOf(0, Integer.MIN_VALUE).finds("flown(0)", UNLIKE).rowOf(0, 32).finds("flown(0)", UNLIKE);
        t.due("fly(0)", 4).rowOf(0, 1, 0).finds("flown(0)", UNLIKE).rowOf(0, 1).due("flown(0)", 4);
    }

    private static void when() {
        Script s = Script.parish("promise 26", "w260600k490k100h101s100");
        s.due("when(0)", 1).due("asked()", 12).due("when(1)", 0).due("asked()", 0).due("when(2)", 0).due("asked()", 0).due("when(3)", 0).due("asked()", 0);
        s.due("rest()", 1).due("when(0)", 0).due("asked()", 12).due("fly(0)", 12).due("when(0)", 1).due("asked()", 12).due("rest()", 3).due("when(0)", 0);
        s.due("rest()", 4).due("when(0)", 1).due("rest()", 5).due("rest()", 6).due("when(0)", 1).due("asked()", 12);
        Script.parish("promise 26, LIFTED", "w932100k820").due("when(0)", 2).due("asked()", 8);
        Script.parish("promise 26, three", "w000900k290").due("when(0)", 3).due("asked()", 9);
        s.refused("when(4)", -1).refused("when(-1)", -1);
        Script.fresh("promise 26, no KITE").refused("when(0)", -1);
    }
}
