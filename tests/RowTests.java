/** Promises 1 to 7: a new object, rows. */
public final class RowTests {
    private static final int NOTHING = 1, BEYOND = 2, NOUGHT = 4, SIZE = 5;
    private static final int MIN = Integer.MIN_VALUE, MAX = Integer.MAX_VALUE;

    public static void main(String[] args) {
        newObject();
        row();
        layAndAt();
        tear();
        copy();
        copyRefused();
        mean();
        Script.end();
    }

    private static void newObject() {
        Script s = Script.fresh("promise 1");
        for (int what = 0; what < 12; what++) {
            s.due("count(" + what + ")", 0);
        }
        for (int r = 0; r < 6; r++) {
            s.finds("at(" + r + ", 0)", NOTHING);
        }
        for (int t = 0; t < 4; t++) {
            s.finds("put(" + t + ", 0, 0)", NOTHING);
        }
        s.due("kite(0, 0)", -1).due("asked()", 0).due("upper()", 0).due("lower()", 1);
    }

    private static void row() {
        Script s = Script.fresh("promise 2");
        s.due("row(0, 3)", 3).holds(0, 0, 0, 0).due("count(8)", 1);
        s.due("row(5, 40)", 40).told("at(5, 39)", 0).finds("at(5, 40)", BEYOND).due("count(8)", 2);
        s.due("row(0, 0)", 0).holds(0).due("count(8)", 2);
        s.rowOf(1, 7, 8, 9).due("row(1, 2)", 2).holds(1, 0, 0).due("row(1, 3)", 3).holds(1, 0, 0, 0);
        s.refused("row(1, 41)", -1).refused("row(1, " + MAX + ")", -1).refused("row(6, 1)", -1).refused("row(-1, 1)", -1);
        s.refused("row(1, -1)", -3).finds("row(1, " + MIN + ")", SIZE);
        s.refused("row(6, -1)", -1).refused("row(-1, -1)", -1).due("findings(5)", 2);
    }

    private static void layAndAt() {
        Script s = Script.fresh("promises 3, 4");
        s.due("row(2, 2)", 2).told("lay(2, 0, 5)", 0).told("lay(2, 0, " + MIN + ")", 5).told("lay(2, 0, 1)", MIN);
        s.told("lay(2, 1, " + MAX + ")", 0).told("at(2, 1)", MAX).told("at(2, 0)", 1).holds(2, 1, MAX);
        s.refused("lay(2, 2, 1)", -3).finds("lay(2, -1, 1)", BEYOND).finds("lay(2, " + MIN + ", 1)", BEYOND);
        s.refused("at(2, 2)", -3).finds("at(2, -1)", BEYOND).finds("at(2, " + MAX + ")", BEYOND);
        s.refused("lay(6, 0, 1)", -1).refused("lay(-1, 0, 1)", -1).refused("at(6, 0)", -1).refused("at(-1, 0)", -1);
        s.refused("lay(3, 0, 1)", -3).finds("lay(3, -1, 1)", NOTHING).refused("at(3, 0)", -3).finds("at(3, -1)", NOTHING);
    }

    private static void tear() {
        Script s = Script.fresh("promise 5");
        s.rowOf(4, 1, 2).due("tear(4)", 1).due("count(8)", 0).finds("at(4, 0)", NOTHING);
        s.finds("tear(4)", NOTHING).refused("tear(4)", -3).refused("tear(6)", -1).refused("tear(-1)", -1);
        s.due("row(4, 2)", 2).holds(4, 0, 0);
    }

    private static void copy() {
        Script s = Script.fresh("promise 6");
        s.rowOf(0, 1, 2, 3, 4, 5).rowOf(1, 9, 9, 9).due("copy(0, 1, 1, 0, 3)", 1).holds(1, 2, 3, 4).holds(0, 1, 2, 3, 4, 5);
        s.due("copy(0, 0, 0, 1, 4)", 1).holds(0, 1, 1, 2, 3, 4);
        s.rowOf(0, 1, 2, 3, 4, 5).due("copy(0, 2, 0, 0, 3)", 1).holds(0, 3, 4, 5, 4, 5);
        s.due("copy(0, 5, 1, 3, 0)", 1).due("copy(0, 0, 1, 0, 0)", 1).holds(1, 2, 3, 4);
        s.due("row(2, 0)", 0).due("copy(2, 0, 2, 0, 0)", 1);
    }

    private static void copyRefused() {
        Script s = Script.fresh("promise 6, refused");
        s.rowOf(0, 1, 2, 3).rowOf(1, 4, 5);
        s.refused("copy(6, 0, 0, 0, -1)", -1).refused("copy(0, 0, 6, 0, -1)", -1).refused("copy(-1, 0, 0, 0, 1)", -1).refused("copy(0, 0, -1, 0, 1)", -1);
        s.finds("copy(5, 0, 0, 0, -1)", SIZE).finds("copy(0, -1, 1, 0, -1)", SIZE).refused("copy(0, 0, 1, 0, " + MIN + ")", -3);
        s.finds("copy(5, -1, 0, 0, 1)", NOTHING).finds("copy(0, -1, 5, 0, 1)", NOTHING);
        s.finds("copy(0, 2, 1, 0, 2)", BEYOND).finds("copy(0, 0, 1, 1, 2)", BEYOND).finds("copy(0, 0, 1, 0, 3)", BEYOND);
        s.finds("copy(0, -1, 1, 0, 0)", BEYOND).finds("copy(0, 0, 1, -1, 0)", BEYOND);
        s.finds("copy(0, 4, 1, 0, 0)", BEYOND).finds("copy(0, 0, 1, 3, 0)", BEYOND);
        s.finds("copy(0, 1, 1, 0, " + MAX + ")", BEYOND).finds("copy(0, " + MAX + ", 1, 0, " + MAX + ")", BEYOND);
        s.finds("copy(0, " + MIN + ", 1, 0, 1)", BEYOND).refused("copy(0, 0, 1, " + MAX + ", 1)", -3);
        s.holds(0, 1, 2, 3).holds(1, 4, 5);
    }

    private static void mean() {
        Script s = Script.fresh("promise 7");
        s.rowOf(0, 1, 2, 5).told("mean(0)", 2).rowOf(0, 1, 2).told("mean(0)", 1).rowOf(0, -1, -2).told("mean(0)", -1);
        s.rowOf(0, -7, 0).told("mean(0)", -3).rowOf(0, MAX, MAX, MAX).told("mean(0)", MAX).rowOf(0, MIN, MIN).told("mean(0)", MIN);
        s.rowOf(0, 3).told("mean(0)", 3);
        s.due("row(1, 0)", 0).finds("mean(1)", NOUGHT).refused("mean(1)", -3);
        s.finds("mean(2)", NOTHING).refused("mean(2)", -3).refused("mean(6)", -1).refused("mean(-1)", -1);
    }
}
