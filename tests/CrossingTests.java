/** Promises 27 to 29: two crossed, pairs crossed, mergers in pairs. */
public final class CrossingTests {
    private static final int NONE = -9;

    public static void main(String[] args) {
        cross();
        crossed();
        merge();
        mergeFirst();
        mergeRefused();
        Script.end();
    }

    private static void cross() {
        Script s = Script.parish("promise 27", "w000000k490k250c990j100");
        s.due("cross(0, 1, 4)", 8 + 4 + 3).due("cross(1, 0, 4)", 15).due("cross(0, 1, 0)", 0).due("cross(0, 3, 0)", 1).due("cross(2, 0, 9)", 18).due("cross(2, 3, 9)", 1);
        s.due("cross(0, 2, 6)", 12 + 13 + 3).due("fly(0)", 0).due("cross(0, 1, 4)", 15).due("tie(1)", 1).due("cross(0, 1, 4)", 13).due("tie(1)", 2).due("cross(0, 1, 4)", 8);
        s.refused("cross(0, 0, 4)", -1).refused("cross(3, 3, 4)", -1).refused("cross(4, 0, 4)", -1).refused("cross(0, 4, 4)", -1).refused("cross(-1, 0, 4)", -1);
        s.refused("cross(0, -1, 4)", -1).refused("cross(0, 1, 10)", -1).refused("cross(0, 1, -1)", -1).due("asked()", 0);
        Script.fresh("promise 27, no KITE").refused("cross(0, 1, 0)", -1);
        Script.parish("promise 27, one KITE", "w000000k490").refused("cross(0, 1, 0)", -1);
    }

    private static void crossed() {
        // in WIND 4: 8, 4, 8, 0
        Script s = Script.parish("promise 28", "w000000k490k250k490k103");
        s.answers("crossed(15, 4)", 2, 1).answers("crossed(19, 4)", 1, 2).answers("crossed(8, 4)", 2, 3).answers("crossed(4, 4)", 1, 13).answers("crossed(0, 0)", 6, 1);
        s.refused("crossed(16, 4)", NONE).refused("crossed(200, 4)", NONE).due("asked()", 1);
        s.refused("crossed(201, 4)", -1).refused("crossed(-1, 4)", -1).refused("crossed(0, 10)", -1).refused("crossed(0, -1)", -1);
        Script.parish("promise 28, last pair", "w000000k103k103k103k103k490k490").answers("crossed(15, 3)", 1, 45).answers("crossed(6, 3)", 8, 4);
        Script.parish("promise 28, one KITE", "w000000k490").refused("crossed(0, 0)", NONE);
        Script.fresh("promise 28, no KITE").refused("crossed(0, 0)", -4).refused("crossed(201, 0)", -1).refused("crossed(0, 10)", -1);
    }

    private static void merge() {
        // in WIND 2: 9, 4, 0, 0: two that LIFT something CROSSED bring 3 more
        Script s = Script.parish("promise 29", "w000000k990k490k103k103");
        s.due("merge(2, 0)", 16).holds(0, 1, 0, 3, 2).due("merge(0, 1)", 0).holds(1, 1, 0, 3, 2);
        // in WIND 9: 40, 18, 0 are left, or 3 more
        Script.parish("promise 29, odd", "w000000k103k990k490").due("merge(9, 0)", 61).holds(0, NONE, 2, 1).due("merge(0, 0)", 0).holds(0, NONE, 2, 1);
        Script.parish("promise 29, odd, the last left", "w000000k990k490k103").due("merge(9, 0)", 61).holds(0, 1, 0, NONE);
        Script.parish("promise 29, odd, the least left", "w000000k990k290k490k390k890").due("merge(2, 0)", 4 + 8 + 3 + 9 + 3 + 3).holds(0, 2, NONE, 0, 4, 3);
        Script t = Script.parish("promise 29, six, then fewer", "w000000k990k990k990k990k990k990").due("merge(9, 0)", 249);
        t.write(0, "w000000k490k490k490").due("parish(0)", 3).due("merge(2, 0)", 11).holds(0, NONE, 2, 1);
        t.write(0, "w000000k490k490").due("parish(0)", 2).due("merge(2, 0)", 11).holds(0, 1, 0);
        Script.parish("promise 29, two", "w000000j100j100").due("merge(0, 5)", 5).holds(5, 1, 0);
        Script.parish("promise 29, one", "w000000k990").rowOf(2, 1, 2, 3).due("merge(9, 2)", 0).holds(2, NONE);
    }

    private static void mergeFirst() {
        // three bring something, three nothing: only one pair can bring 3 more, so 0 goes with 1
        Script s = Script.parish("promise 29, the first", "w000000k990k990k990k103k103k103");
        s.due("merge(2, 0)", 30).holds(0, 1, 0, 3, 2, 5, 4);
        // any one of five alike is left: none is least
        Script.parish("promise 29, five alike", "w000000k990k990k990k990k990").due("merge(2, 0)", 42).holds(0, NONE, 2, 1, 4, 3);
        // the nothing goes where it takes no 3 away
        Script.parish("promise 29, apart", "w000000k990k103k990k103").due("merge(2, 0)", 21).holds(0, 2, 3, 0, 1);
        Script.parish("promise 29, flown too", "w000000k990k990").due("fly(0)", 0).due("merge(2, 0)", 21).holds(0, 1, 0).due("count(2)", 1);
    }

    private static void mergeRefused() {
        Script s = Script.parish("promise 29, refused", "w000000k990k990");
        s.refused("merge(10, 0)", -1).refused("merge(-1, 0)", -1).refused("merge(0, 6)", -1).refused("merge(0, -1)", -1);
        Script.fresh("promise 29, no KITE").refused("merge(0, 0)", -4).refused("merge(10, 0)", -1).refused("merge(0, 6)", -1);
    }
}
