/** Promises 23 to 33: flyings, crossings, what a kite is, turns: a test for each sentence that names a bound. */
public final class BoundsOfPlansTests {
    private static final int BAD = -1, FINDING = -3, STATE = -4, NONE = -9;
    private static final int NOTHING = 1, UNLIKE = 3, SIZE = 5;
    private static final int MIN = Integer.MIN_VALUE, MAX = Integer.MAX_VALUE;

    public static void main(String[] args) {
        mostBounds();
        mostFirst();
        mostNobodyLifted();
        mostRefused();
        schoolBounds();
        schoolRefused();
        flownBounds();
        flownOrder();
        flownUnlike();
        whenBounds();
        crossBounds();
        crossedBounds();
        crossedRefused();
        mergeBounds();
        mergeFirst();
        mergeRefused();
        tailsBounds();
        kindsBounds();
        testBounds();
        pairsRefused("tails", 0);
        pairsRefused("kinds", 0);
        pairsRefused("test", NONE);
        duelBounds();
        duelRefused();
        Script.end();
    }

    private static void mostBounds() {
        // in WINDS 1, 2, 3, 4: 0, 1, 1, 2
        Script.parish("promise 23: 0 HOURS", "w123400k190").asideBut(0, "most(0, 0)", 0).due("most(0, 0)", 0).holds(0);
        Script.parish("promise 23: 1 HOUR", "w123400k190").asideBut(0, "most(1, 0)", 0).due("most(1, 0)", 0).holds(0, NONE);
        Script.parish("promise 23: 5 HOURS", "w123400k190").asideBut(5, "most(5, 5)", 2).due("most(5, 5)", 2).holds(5, NONE, NONE, NONE, 0, NONE);
        Script.parish("promise 23: 5 HOURS, six KITES", "w111100k190k290k390k490k590k690").due("most(5, 0)", 1 + 1 + 2 + 2 + 3).holds(0, 1, 2, 3, 4, 5);
        Script.parish("promise 23: 5 HOURS, the last of these", "w222200k290k490k690k890k990k190").due("most(5, 0)", 2 + 4 + 6 + 8 + 9).holds(0, 0, 1, 2, 3, 4);
        Script.parish("promise 23: from now on", "w900900k290").due("rest()", 1).due("most(2, 0)", 0).holds(0, NONE, NONE).due("most(3, 0)", 9).holds(0, NONE, NONE, 0).due("most(4, 0)", 9).holds(0, NONE, NONE, NONE, 0);
        Script.parish("promise 23: from HOUR 3 on", "w900000k290").due("rest()", 1).due("rest()", 2).due("rest()", 3).due("most(1, 0)", 0).due("most(2, 0)", 9).holds(0, NONE, 0);
        Script.parish("promise 23: none that was not flown", "w222200k190").due("fly(0)", 1).due("most(5, 0)", 0).holds(0, NONE, NONE, NONE, NONE, NONE);
        Script.parish("promise 23: what was PAID is not told", "w222200k190k290").due("fly(0)", 1).due("most(1, 0)", 2).holds(0, 1);
        Script.parish("promise 23: a ROW (anew), longer before", "w222200k190").due("row(3, 40)", 40).told("lay(3, 0, 7)", 0).due("most(1, 3)", 1).holds(3, 0);
        Script.parish("promise 23: a ROW (anew), shorter before", "w222200k190").due("row(3, 0)", 0).due("most(2, 3)", 1).holds(3, NONE, 0).due("count(8)", 1);
    }

    private static void mostFirst() {
        Script.parish("promise 23: the first: none ahead of numbers", "w222200k290k290").due("most(5, 0)", 4).holds(0, NONE, NONE, NONE, 0, 1);
        Script.parish("promise 23: the first: the least number", "w222200k290k290k290").due("most(2, 0)", 4).holds(0, 0, 1);
        Script.parish("promise 23: the first: none for what PAYS nothing", "w000000k290k290").due("most(3, 0)", 0).holds(0, NONE, NONE, NONE);
    }

    private static void mostNobodyLifted() {
        Script.parish("promise 23: nobody is LIFTED: none can be flown", "w999900k900s900").due("most(5, 0)", 0).holds(0, NONE, NONE, NONE, NONE, NONE);
        Script.parish("promise 23: nobody is LIFTED: in a later HOUR", "w920000k820").due("most(2, 0)", 8).holds(0, NONE, 0);
    }

    private static void mostRefused() {
        Script.parish("promise 23: BAD, HOURS", "w222200k190").refused("most(-1, 0)", BAD).refused("most(6, 0)", BAD).refused("most(" + MAX + ", 0)", BAD).refused("most(" + MIN + ", 0)", BAD);
        Script.parish("promise 23: BAD, a ROW", "w222200k190").refused("most(1, -1)", BAD).refused("most(1, 6)", BAD).refused("most(1, " + MAX + ")", BAD).refused("most(1, " + MIN + ")", BAD);
        Script.fresh("promise 23: STATE: no KITES").refused("most(1, 0)", STATE).refused("most(0, 5)", STATE).refused("most(6, 0)", BAD).refused("most(0, 6)", BAD);
    }

    private static void schoolBounds() {
        Script.parish("promise 24: 0 HOURS, nothing wanted", "w222200k190").asideBut(0, "school(0)", 0).due("school(0)", 0).holds(0);
        Script.parish("promise 24: 0 HOURS, as much was PAID", "w222204k490k190").due("fly(0)", 4).asideBut(5, "school(5)", 0).due("school(5)", 0).holds(5);
        Script.parish("promise 24: what was PAID, too", "w222205k490k190").due("fly(0)", 4).due("school(5)", 1).holds(5, 1);
        Script.parish("promise 24: as much", "w222208k890").asideBut(1, "school(1)", 1).due("school(1)", 1).holds(1, 0);
        Script.parish("promise 24: or more", "w222207k890").due("school(1)", 1).holds(1, 0);
        Script.parish("promise 24: NONE: 1 less", "w222209k890").refused("school(1)", NONE).rowOf(1, 3).refused("school(1)", NONE).holds(1, 3);
        Script.parish("promise 24: 5 HOURS", "w000004k190").refused("school(0)", NONE).due("rest()", 1).refused("school(0)", NONE);
        Script.parish("promise 24: 5 HOURS are as many as can be", "w222210k290k290k290k290k290k290").due("school(0)", 5).holds(0, 0, 1, 2, 3, 4);
        Script.parish("promise 24: NONE: 6 HOURS would do", "w222211k290k290k290k290k290k290").refused("school(0)", NONE);
        Script.parish("promise 24: NONE: 99", "w111199k990").refused("school(0)", NONE);
        Script.parish("promise 24: the fewest HOURS", "w111904k890").due("school(0)", 1).holds(0, 0);
        Script.parish("promise 24: the first row of most, not the first that is enough", "w400001k490k890").due("school(0)", 1).holds(0, 1);
        Script.parish("promise 24: nobody LIFTED", "w920008k820").due("school(0)", 2).holds(0, NONE, 0);
        Script.parish("promise 24: a ROW (anew)", "w222208k890").due("row(4, 40)", 40).due("school(4)", 1).holds(4, 0);
    }

    private static void schoolRefused() {
        Script.parish("promise 24: BAD", "w222200k190").refused("school(6)", BAD).refused("school(-1)", BAD).refused("school(" + MAX + ")", BAD).refused("school(" + MIN + ")", BAD);
        Script.fresh("promise 24: STATE: no KITES").refused("school(0)", STATE).refused("school(5)", STATE).refused("school(6)", BAD);
    }

    private static void flownBounds() {
        Script.parish("promise 25: 0 HOURS", "w222200k190").told("kite(0, 1)", 1).rowOf(0).aside("flown(0)", 0).due("asked()", 0);
        Script.parish("promise 25: 1 HOUR", "w222200k190").rowOf(0, 0).aside("flown(0)", 1).due("asked()", 0);
        Script s = Script.parish("promise 25: 20 HOURS", "w000900k290").due("row(0, 20)", 20);
        for (int h = 0; h < 20; h++) {
            s.told("lay(0, " + h + ", -9)", 0);
        }
        s.aside("flown(0)", 0).told("lay(0, 19, 0)", NONE).aside("flown(0)", 9).due("asked()", 0);
        Script.parish("promise 25: SIZE: more than 20", "w222200k190").due("row(0, 21)", 21).finds("flown(0)", SIZE).due("row(0, 40)", 40).refused("flown(0)", FINDING).finds("flown(0)", SIZE);
        Script.parish("promise 25: flyers are LIFTED by asked(): all six", "w999900k100k100k100k100k100k100").rowOf(0, 5, 4, 3, 2, 1, 0).answers("flown(0)", 0, 63);
        Script.parish("promise 25: flyers are LIFTED by asked(): the last", "w999900k190k190k190k190k190k100").rowOf(0, 5, 0).answers("flown(0)", 4, 32);
        Script.parish("promise 25: PAID by the flying alone", "w222200k190k490").due("fly(0)", 1).rowOf(0, 1).answers("flown(0)", 4, 0);
    }

    /** In this order: BAD, STATE, NOTHING, SIZE, UNLIKE */
    private static void flownOrder() {
        Script.fresh("promise 25: BAD").refused("flown(6)", BAD).refused("flown(-1)", BAD).refused("flown(" + MAX + ")", BAD).refused("flown(" + MIN + ")", BAD);
        Script.fresh("promise 25: STATE ahead of NOTHING, SIZE, UNLIKE").refused("flown(0)", STATE).due("row(0, 21)", 21).refused("flown(0)", STATE).rowOf(0, 7).refused("flown(0)", STATE);
        Script.parish("promise 25: NOTHING", "w222200k190").refused("flown(5)", FINDING).finds("flown(0)", NOTHING);
        Script.parish("promise 25: SIZE ahead of UNLIKE", "w222200k190").due("row(0, 21)", 21).told("lay(0, 0, 7)", 0).finds("flown(0)", SIZE).due("findings(3)", 0);
    }

    private static void flownUnlike() {
        int[] none = {1, 2, 5, 6, 31, 32, 33, -1, -8, -10, MAX, MIN};
        for (int i : none) {
            Script.parish("promise 25: UNLIKE: no KITE, nor NONE: " + i, "w222200k190").rowOf(0, NONE, i).refused("flown(0)", FINDING).finds("flown(0)", UNLIKE);
        }
        Script.parish("promise 25: UNLIKE: one that was flown", "w222200k190k290").due("fly(1)", 2).rowOf(0, 1).finds("flown(0)", UNLIKE).rowOf(0, 0, 1).finds("flown(0)", UNLIKE).rowOf(0, 0).due("flown(0)", 1);
        Script.parish("promise 25: UNLIKE: told ahead", "w222200k190k290").rowOf(0, 0, 0).finds("flown(0)", UNLIKE).rowOf(0, 1, NONE, 0, 1).finds("flown(0)", UNLIKE).rowOf(0, 1, 0).due("flown(0)", 3);
        Script.parish("promise 25: NONE told more than once is well", "w222200k190").rowOf(0, NONE, 0, NONE, NONE).due("flown(0)", 1);
    }

    private static void whenBounds() {
        Script.parish("promise 26: 0 HOURS", "w200000k290").aside("when(0)", 0).due("asked()", 2);
        Script.parish("promise 26: 3 HOURS", "w000200k290").aside("when(0)", 3).due("asked()", 2);
        Script.parish("promise 26: not 4 HOURS", "w200000k290").due("rest()", 1).aside("when(0)", 3).due("asked()", 2);
        Script.parish("promise 26: the first", "w020200k290").aside("when(0)", 1).due("rest()", 1).aside("when(0)", 0).due("rest()", 2).aside("when(0)", 1);
        Script.parish("promise 26: nothing in any HOUR", "w000000k290").told("kite(0, 1)", 2).aside("when(0)", 0).due("asked()", 0);
        Script.parish("promise 26: who is LIFTED PAYS nothing", "w932100k820").aside("when(0)", 2).due("asked()", 8);
        Script.parish("promise 26: who is LIFTED in each HOUR", "w999900k900").aside("when(0)", 0).due("asked()", 0);
        Script.parish("promise 26: one that was flown, too", "w290000k290").due("fly(0)", 2).aside("when(0)", 0).due("asked()", 9);
        Script.parish("promise 26: BAD", "w200000k290").refused("when(1)", BAD).refused("when(-1)", BAD).refused("when(6)", BAD).refused("when(" + MAX + ")", BAD).refused("when(" + MIN + ")", BAD);
        Script.fresh("promise 26: BAD, without KITES").refused("when(0)", BAD);
    }

    private static void crossBounds() {
        Script.parish("promise 27: 3 more, if neither LIFTS nothing", "w000000k190j190").aside("cross(0, 1, 2)", 1 + 1 + 3).aside("cross(1, 0, 2)", 5);
        Script.parish("promise 27: one LIFTS nothing", "w000000k190j190").aside("cross(0, 1, 1)", 1).aside("cross(1, 0, 1)", 1).aside("cross(0, 1, 0)", 1);
        Script.parish("promise 27: both LIFT nothing", "w000000k190k190").aside("cross(0, 1, 1)", 0);
        Script.parish("promise 27: WINDS 0 .. 9", "w000000s990s990").aside("cross(0, 1, 0)", 0).aside("cross(0, 1, 9)", 51 + 51 + 3);
        Script.parish("promise 27: the last of six", "w000000k190k190k190k190k490k690").aside("cross(4, 5, 2)", 13).aside("cross(5, 4, 2)", 13).refused("cross(5, 6, 2)", BAD);
        Script.parish("promise 27: BAD: also alike", "w000000k190k190").refused("cross(0, 0, 2)", BAD).refused("cross(1, 1, 2)", BAD);
        Script.parish("promise 27: BAD, no such KITE", "w000000k190k190").refused("cross(2, 0, 2)", BAD).refused("cross(0, 2, 2)", BAD).refused("cross(-1, 0, 2)", BAD).refused("cross(0, -1, 2)", BAD)
            .refused("cross(" + MAX + ", " + MIN + ", 2)", BAD).refused("cross(2, 2, 2)", BAD);
        Script.parish("promise 27: BAD, no such WIND", "w000000k190k190").refused("cross(0, 1, 10)", BAD).refused("cross(0, 1, -1)", BAD).refused("cross(0, 1, " + MAX + ")", BAD).refused("cross(0, 1, " + MIN + ")", BAD);
        Script.fresh("promise 27: BAD, without KITES").refused("cross(0, 1, 2)", BAD).refused("cross(0, 0, 2)", BAD);
    }

    private static void crossedBounds() {
        Script.parish("promise 28: v 0", "w000000k190k190k190").aside("crossed(0, 1)", 3).due("asked()", 1);
        Script.parish("promise 28: the most that two LIFT", "w000000s990s990").aside("crossed(105, 9)", 1).due("asked()", 1).refused("crossed(104, 9)", NONE).refused("crossed(106, 9)", NONE);
        Script.parish("promise 28: v 200", "w000000s990s990").refused("crossed(200, 9)", NONE);
        Script.parish("promise 28: all 15 pairs", "w000000k190k190k190k190k190k190").aside("crossed(5, 2)", 15).due("asked()", 1);
        Script.parish("promise 28: the first: 10 times the lesser number and the other one", "w000000k190k190k190k190k490k490").aside("crossed(11, 2)", 1).due("asked()", 45).aside("crossed(8, 2)", 8).due("asked()", 4);
        Script.parish("promise 28: NONE: none does", "w000000k190k190").refused("crossed(4, 2)", NONE).due("asked()", 0);
        Script.parish("promise 28: NONE: one KITE", "w000000k190").refused("crossed(0, 0)", NONE).refused("crossed(1, 2)", NONE);
        Script.parish("promise 28: WINDS 0 .. 9", "w000000k290k290").aside("crossed(0, 0)", 1).aside("crossed(21, 9)", 1);
    }

    private static void crossedRefused() {
        Script.parish("promise 28: BAD, v", "w000000k190k190").refused("crossed(-1, 2)", BAD).refused("crossed(201, 2)", BAD).refused("crossed(" + MAX + ", 2)", BAD).refused("crossed(" + MIN + ", 2)", BAD);
        Script.parish("promise 28: BAD, WIND", "w000000k190k190").refused("crossed(0, -1)", BAD).refused("crossed(0, 10)", BAD).refused("crossed(0, " + MAX + ")", BAD).refused("crossed(0, " + MIN + ")", BAD);
        Script.fresh("promise 28: STATE: no KITES").refused("crossed(0, 0)", STATE).refused("crossed(200, 9)", STATE).refused("crossed(201, 9)", BAD).refused("crossed(200, 10)", BAD);
    }

    private static void mergeBounds() {
        Script.parish("promise 29: one is left", "w000000k190").asideBut(0, "merge(2, 0)", 0).due("merge(2, 0)", 0).holds(0, NONE);
        Script.parish("promise 29: two", "w000000k190k290").asideBut(5, "merge(2, 5)", 6).due("merge(2, 5)", 6).holds(5, 1, 0);
        Script.parish("promise 29: three, the first is left", "w000000k190k290k490").due("merge(2, 0)", 2 + 4 + 3).holds(0, NONE, 2, 1);
        Script.parish("promise 29: three, the second is left", "w000000k290k190k490").due("merge(2, 0)", 2 + 4 + 3).holds(0, 2, NONE, 0);
        Script.parish("promise 29: three, the third is left", "w000000k290k490k190").due("merge(2, 0)", 2 + 4 + 3).holds(0, 1, 0, NONE);
        Script.parish("promise 29: five, the last is left", "w000000k290k490k290k490k190").due("merge(2, 0)", 12 + 6).holds(0, 1, 0, 3, 2, NONE);
        Script.parish("promise 29: six, none is left", "w000000k290k490k290k490k190k190").due("merge(2, 0)", 14 + 9).holds(0, 1, 0, 3, 2, 5, 4);
        Script.parish("promise 29: one is left, behind a merger of six", "w000000k990k990k990k990k990k990").due("merge(9, 0)", 249).write(0, "w000000k990").due("parish(0)", 1).due("merge(9, 0)", 0).holds(0, NONE);
        Script.parish("promise 29: WINDS 0 .. 9", "w000000k290j190").due("merge(0, 0)", 1).due("merge(9, 0)", 9 + 1 + 3);
        Script.parish("promise 29: a ROW (anew)", "w000000k190k290").due("row(2, 40)", 40).due("merge(2, 2)", 6).holds(2, 1, 0);
    }

    private static void mergeFirst() {
        Script.parish("promise 29: the first: NONE least", "w000000k190k190k190").due("merge(2, 0)", 5).holds(0, NONE, 2, 1);
        Script.parish("promise 29: the first, rising", "w000000k190k190k190k190").due("merge(2, 0)", 10).holds(0, 1, 0, 3, 2);
        Script.parish("promise 29: the first, all LIFT nothing", "w000000k190k190k190k190k190k190").due("merge(0, 0)", 0).holds(0, 1, 0, 3, 2, 5, 4);
        Script.parish("promise 29: most ahead of the first, the outer two", "w000000k190k103k103k190").due("merge(2, 0)", 5).holds(0, 3, 2, 1, 0);
        Script.parish("promise 29: most ahead of the first", "w000000k190k103k190k103").due("merge(2, 0)", 5).holds(0, 2, 3, 0, 1);
    }

    private static void mergeRefused() {
        Script.parish("promise 29: BAD, WIND", "w000000k190k190").refused("merge(10, 0)", BAD).refused("merge(-1, 0)", BAD).refused("merge(" + MAX + ", 0)", BAD).refused("merge(" + MIN + ", 0)", BAD);
        Script.parish("promise 29: BAD, a ROW", "w000000k190k190").refused("merge(2, 6)", BAD).refused("merge(2, -1)", BAD).refused("merge(2, " + MAX + ")", BAD).refused("merge(2, " + MIN + ")", BAD);
        Script.fresh("promise 29: STATE: no KITES").refused("merge(2, 0)", STATE).refused("merge(10, 0)", BAD).refused("merge(2, 6)", BAD);
    }

    private static void tailsBounds() {
        Script.parish("promise 30: a ROW without places is well", "w000000k990").rowOf(0).aside("tails(0, 0)", 15);
        Script.parish("promise 30: TAILS 0 .. 3", "w000000k990").rowOf(0, 2, 9).aside("tails(0, 0)", 1).rowOf(0, 2, 7).aside("tails(0, 0)", 2).rowOf(0, 2, 5).aside("tails(0, 0)", 4).rowOf(0, 2, 3).aside("tails(0, 0)", 8);
        Script.parish("promise 30: none", "w000000k990").rowOf(0, 2, 8).aside("tails(0, 0)", 0).rowOf(0, 2, 9, 2, 7).aside("tails(0, 0)", 0);
        Script.parish("promise 30: all that LIFT nothing", "w000000k190").rowOf(0, 0, 0).aside("tails(0, 0)", 15).rowOf(0, 2, 0).aside("tails(0, 0)", 14);
        Script s = Script.parish("promise 30: 20 pairs", "w000000k990").due("row(0, 40)", 40);
        for (int i = 0; i < 40; i += 2) {
            s.told("lay(0, " + i + ", 2)", 0).told("lay(0, " + (i + 1) + ", 7)", 0);
        }
        s.aside("tails(0, 0)", 2).told("lay(0, 39, 9)", 7).aside("tails(0, 0)", 0);
        Script.parish("promise 30: the KIND as it is", "w000000b993").rowOf(0, 9, 42).aside("tails(0, 0)", 15);
    }

    private static void kindsBounds() {
        Script.parish("promise 31: a ROW without places is well", "w000000k990").rowOf(0).aside("kinds(0, 0)", 63);
        Script.parish("promise 31: each KIND", "w000000k991").rowOf(0, 9, 38).aside("kinds(0, 0)", 1).rowOf(0, 3, 3).aside("kinds(0, 0)", 2 + 16).rowOf(0, 3, 5).aside("kinds(0, 0)", 4)
            .rowOf(0, 9, 42).aside("kinds(0, 0)", 8).rowOf(0, 0, 1).aside("kinds(0, 0)", 16).rowOf(0, 9, 51).aside("kinds(0, 0)", 32);
        Script.parish("promise 31: none", "w000000k991").rowOf(0, 9, 39).aside("kinds(0, 0)", 0).rowOf(0, 9, 99).aside("kinds(0, 0)", 0);
        Script.parish("promise 31: the TAIL as it is", "w000000k990").rowOf(0, 9, 38).aside("kinds(0, 0)", 0).due("tie(0)", 1).aside("kinds(0, 0)", 1);
    }

    private static void testBounds() {
        Script.parish("promise 32: a ROW without places is well", "w000000k990").rowOf(0).aside("test(0, 0)", 1).due("asked()", 2);
        Script.parish("promise 32: a WIND of 0", "w000000k190").rowOf(0, 1, 1).aside("kinds(0, 0)", 16 + 32).aside("test(0, 0)", 0).due("asked()", 1);
        // 2 WIDE with a TAIL of 3: a HANDKERCHIEF LIFTS 1, a CHILD'S one nothing in a WIND of 9, no sooner
        Script.parish("promise 32: a WIND of 9", "w000000k293").rowOf(0, 7, 0).aside("kinds(0, 0)", 2 + 4).aside("test(0, 0)", 9).due("asked()", 1);
        Script.parish("promise 32: the first: one KIND", "w000000k990").rowOf(0, 9, 40).aside("kinds(0, 0)", 1).aside("test(0, 0)", 0).due("asked()", 1);
        Script.parish("promise 32: the first: never apart", "w000000k192").rowOf(0, 2, 0).aside("kinds(0, 0)", 1 + 2 + 4).aside("test(0, 0)", 0).due("asked()", 3);
        Script.parish("promise 32: NONE: there is no KIND", "w000000k990").told("kite(0, 1)", 9).rowOf(0, 9, 41).refused("test(0, 0)", NONE).due("asked()", 0);
    }

    /** BAD; NOTHING; SIZE: not by pairs; UNLIKE: a number that is none. (In this order.) */
    private static void pairsRefused(String call, int none) {
        String of = "promises 30 to 32: " + call + ", ";
        Script.parish(of + "BAD, no such KITE", "w000000k990").refused(call + "(1, 0)", BAD).refused(call + "(-1, 0)", BAD).refused(call + "(" + MAX + ", 0)", BAD).refused(call + "(" + MIN + ", 0)", BAD);
        Script.parish(of + "BAD, no such ROW", "w000000k990").refused(call + "(0, 6)", BAD).refused(call + "(0, -1)", BAD).refused(call + "(0, " + MAX + ")", BAD).refused(call + "(0, " + MIN + ")", BAD);
        Script.fresh(of + "BAD, without KITES").refused(call + "(0, 0)", BAD).rowOf(0).refused(call + "(0, 0)", BAD);
        Script.parish(of + "NOTHING", "w000000k990").refused(call + "(0, 0)", FINDING).finds(call + "(0, 5)", NOTHING);
        Script.parish(of + "SIZE: not by pairs", "w000000k990").rowOf(0, 2).refused(call + "(0, 0)", FINDING).finds(call + "(0, 0)", SIZE).rowOf(0, 2, 9, 2).finds(call + "(0, 0)", SIZE).due("row(0, 39)", 39).finds(call + "(0, 0)", SIZE);
        Script.parish(of + "SIZE ahead of UNLIKE", "w000000k990").rowOf(0, 10).finds(call + "(0, 0)", SIZE).rowOf(0, 2, 100, 2).finds(call + "(0, 0)", SIZE).due("findings(3)", 0);
        Script.parish(of + "UNLIKE: a WIND", "w000000k990").rowOf(0, 10, 0).refused(call + "(0, 0)", FINDING).finds(call + "(0, 0)", UNLIKE).rowOf(0, -1, 0).finds(call + "(0, 0)", UNLIKE)
            .rowOf(0, MAX, 0).finds(call + "(0, 0)", UNLIKE).rowOf(0, MIN, 0).finds(call + "(0, 0)", UNLIKE);
        Script.parish(of + "UNLIKE: what it LIFTED", "w000000k990").rowOf(0, 2, 100).refused(call + "(0, 0)", FINDING).finds(call + "(0, 0)", UNLIKE).rowOf(0, 2, -1).finds(call + "(0, 0)", UNLIKE)
            .rowOf(0, 2, MAX).finds(call + "(0, 0)", UNLIKE).rowOf(0, 2, MIN).finds(call + "(0, 0)", UNLIKE);
        Script.parish(of + "UNLIKE: in the last pair", "w000000k990").rowOf(0, 2, 9, 10, 0).finds(call + "(0, 0)", UNLIKE).rowOf(0, 2, 9, 2, 100).finds(call + "(0, 0)", UNLIKE);
        Script.parish(of + "UNLIKE, though no KIND, no TAIL is left", "w000000k990").rowOf(0, 2, 99, 2, 100).finds(call + "(0, 0)", UNLIKE);
        Script.parish(of + "0 .. 9, 0 .. 99 are well", "w000000k990").rowOf(0, 9, 99, 0, 0).aside(call + "(0, 0)", none).rowOf(0, 0, 99).aside(call + "(0, 0)", none);
    }

    private static void duelBounds() {
        Script.parish("promise 33: 0 turns", "w999900k290").aside("duel(0)", 0);
        Script.parish("promise 33: 1 turn, the clerk's", "w222200k490k890").aside("duel(1)", 8);
        Script.parish("promise 33: 2 turns, the flyer's PAYS nothing if none is flown", "w222200k490k890").aside("duel(2)", 8);
        // the flyer lets HOURS go by, the clerk has 8, 6, 4 flown
        Script.parish("promise 33: 6 turns", "w222200k490k890k690k290").aside("duel(6)", 18).aside("duel(5)", 18).aside("duel(4)", 14);
        Script.parish("promise 33: each for an HOUR, by none one goes by, too", "w009000k290k290").aside("duel(2)", 0).aside("duel(3)", 9).due("rest()", 1).aside("duel(2)", 0).due("rest()", 2).aside("duel(1)", 9);
        Script.parish("promise 33: HOUR 4 has the WIND of HOUR 0", "w900000k290k290").due("rest()", 1).due("rest()", 2).aside("duel(2)", 0).aside("duel(3)", 9);
        Script.parish("promise 33: none that was not flown", "w222200k290").due("fly(0)", 2).aside("duel(6)", 0);
        Script.parish("promise 33: what was PAID is not told", "w222200k290k490").due("fly(1)", 4).aside("duel(1)", 2);
        Script.parish("promise 33: LIFTED, it PAYS nothing", "w999900k900").aside("duel(1)", 0).aside("duel(6)", 0);
    }

    private static void duelRefused() {
        Script.parish("promise 33: BAD", "w222200k290").refused("duel(7)", BAD).refused("duel(-1)", BAD).refused("duel(" + MAX + ")", BAD).refused("duel(" + MIN + ")", BAD);
        Script.fresh("promise 33: STATE: no KITES").refused("duel(0)", STATE).refused("duel(6)", STATE).refused("duel(7)", BAD);
    }
}
