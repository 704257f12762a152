/** What the document says ahead of the promises of rows and texts, and promises 1 to 9: a test for each sentence that names a bound. */
public final class BoundsOfRowsTests {
    private static final int BAD = -1, FINDING = -3, STATE = -4, NONE = -9;
    private static final int NOTHING = 1, BEYOND = 2, UNLIKE = 3, NOUGHT = 4, SIZE = 5;
    private static final int MIN = Integer.MIN_VALUE, MAX = Integer.MAX_VALUE;

    public static void main(String[] args) {
        answersInOrder();
        noneLeavesTheRow();
        refusedChangesNothing();
        eachFinding();
        callsOfAnObject();
        missingAtFirst();
        rowBounds();
        layBounds();
        atBounds();
        tearBounds();
        copyBounds();
        copyOrder();
        copyOntoItself();
        meanBounds();
        textBounds();
        putPlaces();
        putWraps();
        Script.end();
    }

    private static void answersInOrder() {
        Script.fresh("ANSWERS: BAD ahead of STATE").refused("keep(3)", BAD).refused("most(6, 0)", BAD).refused("school(6)", BAD).refused("flown(6)", BAD)
            .refused("crossed(201, 0)", BAD).refused("merge(10, 0)", BAD).refused("duel(7)", BAD).refused("odds(13)", BAD).refused("mid(13)", BAD).refused("lots(21, 1)", BAD);
        Script.fresh("ANSWERS: BAD ahead of FINDING").refused("row(6, -1)", BAD).refused("at(6, -1)", BAD).refused("copy(6, 0, 0, 0, -1)", BAD)
            .refused("text(4, -1)", BAD).refused("put(4, -1, 0)", BAD).refused("tails(0, 0)", BAD).refused("kinds(0, 0)", BAD).refused("test(0, 0)", BAD);
        Script.parish("ANSWERS: BAD ahead of UNLIKE", "w000000k100").refused("mark(1, 1)", BAD).refused("mark(0, 6)", BAD);
        Script.fresh("ANSWERS: STATE ahead of FINDING").refused("flown(0)", STATE).rowOf(0, 9).refused("flown(0)", STATE).due("row(0, 21)", 21).refused("flown(0)", STATE);
        Script full = Script.parish("ANSWERS: BAD ahead of FULL", "w000000k101");
        for (int hour = 1; hour <= 40; hour++) {
            full.due("rest()", hour);
        }
        full.refused("fly(1)", BAD).refused("tie(1)", BAD).refused("cut(-1)", BAD).refused("lots(0, 1)", BAD).refused("lots(1, 0)", BAD).refused("lots(1, 1)", -2);
    }

    private static void noneLeavesTheRow() {
        Script.parish("NONE: the ROW stays as it is", "w000001k100").rowOf(2, 5, 6).refused("school(2)", NONE).holds(2, 5, 6);
        Script.parish("NONE: the ROW stays missing", "w000001k100").refused("school(2)", NONE).finds("at(2, 0)", NOTHING).due("count(8)", 0);
        Script.parish("NONE: the ROW stays empty", "w000001k100").rowOf(2).refused("school(2)", NONE).holds(2);
        Script.parish("NONE: what was asked stays", "w000000k100h100").told("kite(0, 1)", 1).refused("crossed(1, 0)", NONE).rowOf(0, 0, 9).refused("test(0, 0)", NONE)
            .due("asked()", 0).told("kite(1, 0)", 1).refused("crossed(7, 9)", NONE).refused("test(1, 0)", NONE).due("asked()", 1);
        Script.parish("NONE: a told number is NONE, and is told", "w000000k100").told("kite(0, 6)", NONE).rowOf(0, NONE).told("at(0, 0)", NONE).told("lay(0, 0, 1)", NONE);
    }

    private static void refusedChangesNothing() {
        changed().refused("row(1, 41)", BAD).refused("row(1, -1)", FINDING).refused("lay(1, 3, 9)", FINDING).refused("at(1, 3)", FINDING).refused("tear(3)", FINDING)
            .refused("copy(1, 0, 2, 0, 1)", FINDING).refused("copy(1, 1, 1, 0, 3)", FINDING).refused("mean(2)", FINDING).refused("text(3, -1)", FINDING).refused("text(3, 61)", BAD);
        changed().refused("put(3, 31, 1)", FINDING).refused("fault(0)", FINDING).refused("parish(0)", FINDING).refused("kite(0, 7)", BAD).refused("mark(0, 1)", FINDING)
            .refused("lifts(0, 10)", BAD).refused("pays(0, 10)", BAD).refused("fly(6)", BAD).refused("tie(6)", BAD).refused("cut(2)", STATE).refused("tie(5)", STATE);
        changed().refused("undo(1)", BAD).refused("keep(3)", BAD).refused("on(0)", FINDING).refused("on(3)", BAD).refused("most(6, 1)", BAD).refused("school(6)", BAD)
            .refused("flown(1)", FINDING).refused("when(6)", BAD).refused("cross(1, 1, 1)", BAD).refused("crossed(200, 9)", NONE).refused("merge(10, 1)", BAD);
        changed().refused("tails(0, 1)", FINDING).refused("kinds(0, 1)", FINDING).refused("test(0, 1)", FINDING).refused("duel(7)", BAD).refused("odds(13)", BAD)
            .refused("mid(-1)", BAD).refused("lots(21, 1)", BAD).refused("lots(1, 0)", BAD).refused("count(12)", BAD).refused("findings(6)", BAD);
    }

    /** An object on which all that can be told is something else than at first. */
    private static Script changed() {
        Script s = Script.parish("what is refused changes nothing", "w269430k861h982c650b492j970s513").rowOf(1, 4, 5, 6).rowOf(2).due("keep(1)", 0);
        // 6, 7, 0, 10, 3 and 0 in the WINDS of their HOURS, 1 by the JUDGE'S KITE if it is calm
        return s.told("at(1, 2)", 6).finds("mark(0, 1)", UNLIKE).chance("mid(12)", 1, 1).chance("mid(9)", 29, 4);
    }

    private static void eachFinding() {
        Script s = Script.parish("FINDINGS 1 .. 5", "w000000k100").rowOf(1, 3).rowOf(2);
        s.finds("at(0, 0)", NOTHING).finds("fault(0)", NOTHING).finds("on(0)", NOTHING).due("findings(1)", 3);
        s.finds("at(1, 1)", BEYOND).finds("put(3, 11, 0)", BEYOND).due("findings(2)", 2);
        s.finds("mark(0, 1)", UNLIKE).finds("flown(1)", UNLIKE).due("findings(3)", 2);
        s.finds("mean(2)", NOUGHT).due("findings(4)", 1).finds("row(0, -1)", SIZE).finds("kinds(0, 1)", SIZE).due("findings(5)", 2);
        s.due("findings(1)", 3).due("findings(2)", 2).due("findings(3)", 2).due("findings(4)", 1);
    }

    private static void callsOfAnObject() {
        Script s = Script.parish("at most 512 calls", "w123400k100");
        for (int k = 0; k < 12; k++) {
            for (int hour = 1; hour <= 40; hour++) {
                s.due("rest()", hour);
            }
            s.due("undo(0)", 40);
        }
        s.due("count(1)", 0).due("count(3)", 1).due("count(2)", 0);
    }

    private static void missingAtFirst() {
        Script s = Script.fresh("promise 1: No ROWS");
        for (int r = 0; r <= 5; r++) {
            s.refused("at(" + r + ", 0)", FINDING).refused("tear(" + r + ")", FINDING).finds("mean(" + r + ")", NOTHING);
        }
        s.due("count(8)", 0);
        Script t = Script.fresh("promise 1: No TEXTS");
        for (int i = 0; i <= 3; i++) {
            t.refused("put(" + i + ", 0, 0)", FINDING).refused("fault(" + i + ")", FINDING).finds("parish(" + i + ")", NOTHING);
        }
        t.due("count(9)", 0);
        Script.fresh("promise 1: No KITES").due("count(0)", 0).due("count(11)", 0).refused("kite(0, 0)", BAD).refused("lifts(0, 0)", BAD).refused("when(0)", BAD).due("count(4)", 0);
        Script.fresh("promise 1: no kept PARISHES").due("count(10)", 0).finds("on(0)", NOTHING).finds("on(1)", NOTHING).finds("on(2)", NOTHING);
        Script.fresh("promise 1: nothing told, found").due("asked()", 0).due("upper()", 0).due("lower()", 1).due("finding()", 0).due("findings(1)", 0).due("findings(5)", 0);
    }

    private static void rowBounds() {
        Script.fresh("promise 2: n ints 0, none").due("row(0, 0)", 0).holds(0).due("count(8)", 1);
        Script.fresh("promise 2: n ints 0, one").due("row(0, 1)", 1).holds(0, 0);
        Script.fresh("promise 2: n ints 0, 40").due("row(5, 40)", 40).told("lay(5, 39, 7)", 0).told("lay(5, 0, 7)", 0).finds("at(5, 40)", BEYOND);
        Script s = Script.fresh("promise 2: ints 0 where others were").due("row(3, 40)", 40);
        for (int i = 0; i < 40; i++) {
            s.told("lay(3, " + i + ", " + (i + 1) + ")", 0);
        }
        s.due("row(3, 0)", 0).holds(3).due("row(3, 40)", 40);
        for (int i = 0; i < 40; i++) {
            s.told("at(3, " + i + ")", 0);
        }
        Script.fresh("promise 2: BAD: a ROW that there is not").refused("row(6, 1)", BAD).refused("row(-1, 1)", BAD).refused("row(" + MAX + ", 0)", BAD).refused("row(" + MIN + ", 0)", BAD);
        Script.fresh("promise 2: BAD: also n above 40").rowOf(0, 8).refused("row(0, 41)", BAD).refused("row(0, " + MAX + ")", BAD).holds(0, 8);
        Script.fresh("promise 2: SIZE: below 0").rowOf(0, 8).finds("row(0, -1)", SIZE).finds("row(0, " + MIN + ")", SIZE).finds("row(1, -1)", SIZE).holds(0, 8).due("count(8)", 1);
    }

    private static void layBounds() {
        Script.fresh("promise 3: the first place, the last one").due("row(0, 3)", 3).told("lay(0, 0, 1)", 0).told("lay(0, 2, 3)", 0).told("lay(0, 2, 4)", 3).holds(0, 1, 0, 4);
        Script.fresh("promise 3: any int").rowOf(0, MIN).told("lay(0, 0, " + MAX + ")", MIN).told("lay(0, 0, -1)", MAX).told("lay(0, 0, 0)", -1);
        Script.fresh("promise 3: BAD").refused("lay(6, 0, 1)", BAD).refused("lay(-1, 0, 1)", BAD).refused("lay(" + MAX + ", 0, 1)", BAD).refused("lay(" + MIN + ", 0, 1)", BAD);
        Script.fresh("promise 3: NOTHING").refused("lay(5, 0, 1)", FINDING).finds("lay(0, 0, 1)", NOTHING).finds("lay(0, -1, 1)", NOTHING);
        Script.fresh("promise 3: BEYOND").rowOf(0, 1, 2).refused("lay(0, 2, 9)", FINDING).finds("lay(0, 2, 9)", BEYOND).finds("lay(0, -1, 9)", BEYOND)
            .finds("lay(0, " + MAX + ", 9)", BEYOND).finds("lay(0, " + MIN + ", 9)", BEYOND).holds(0, 1, 2);
        Script.fresh("promise 3: BEYOND, a ROW without places").rowOf(0).finds("lay(0, 0, 9)", BEYOND);
    }

    private static void atBounds() {
        Script.fresh("promise 4: the first place, the last one").rowOf(5, 3, 4, 5).told("at(5, 0)", 3).told("at(5, 2)", 5);
        Script.fresh("promise 4: BAD").refused("at(6, 0)", BAD).refused("at(-1, 0)", BAD).refused("at(" + MAX + ", 0)", BAD).refused("at(" + MIN + ", 0)", BAD);
        Script.fresh("promise 4: NOTHING").refused("at(5, 0)", FINDING).finds("at(0, 0)", NOTHING).finds("at(0, -1)", NOTHING);
        Script.fresh("promise 4: BEYOND").rowOf(0, 1, 2).refused("at(0, 2)", FINDING).finds("at(0, 2)", BEYOND).finds("at(0, -1)", BEYOND).finds("at(0, " + MAX + ")", BEYOND).finds("at(0, " + MIN + ")", BEYOND);
        Script.fresh("promise 4: BEYOND, a ROW without places").rowOf(0).finds("at(0, 0)", BEYOND);
        Script.fresh("promise 4: BEYOND, where places were").rowOf(0, 1, 2, 3).due("row(0, 1)", 1).finds("at(0, 1)", BEYOND);
    }

    private static void tearBounds() {
        Script.fresh("promise 5: a ROW is missing").rowOf(0, 1).rowOf(5, 2).due("tear(0)", 1).finds("at(0, 0)", NOTHING).due("count(8)", 1).due("tear(5)", 1).due("count(8)", 0);
        Script.fresh("promise 5: a ROW without places, too").rowOf(2).due("tear(2)", 1).due("count(8)", 0);
        Script.fresh("promise 5: BAD").refused("tear(6)", BAD).refused("tear(-1)", BAD).refused("tear(" + MAX + ")", BAD).refused("tear(" + MIN + ")", BAD);
        Script.fresh("promise 5: NOTHING").refused("tear(0)", FINDING).finds("tear(5)", NOTHING).rowOf(0, 1).due("tear(0)", 1).finds("tear(0)", NOTHING);
    }

    private static void copyBounds() {
        Script.fresh("promise 6: all places of 40").due("row(0, 40)", 40).due("row(1, 40)", 40).told("lay(0, 0, 1)", 0).told("lay(0, 39, 2)", 0).due("copy(0, 0, 1, 0, 40)", 1)
            .told("at(1, 0)", 1).told("at(1, 39)", 2).finds("copy(0, 0, 1, 0, 41)", BEYOND);
        Script.fresh("promise 6: n 0, at the ends").rowOf(0, 1, 2).rowOf(1, 3).aside("copy(0, 2, 1, 1, 0)", 1).aside("copy(0, 0, 1, 0, 0)", 1).aside("copy(1, 1, 0, 2, 0)", 1);
        Script.fresh("promise 6: n 0, ROWS without places").rowOf(0).rowOf(1).aside("copy(0, 0, 1, 0, 0)", 1).finds("copy(0, 1, 1, 0, 0)", BEYOND).finds("copy(0, 0, 1, 0, 1)", BEYOND);
        Script.fresh("promise 6: BAD, the one").rowOf(0, 1).refused("copy(6, 0, 0, 0, 1)", BAD).refused("copy(-1, 0, 0, 0, 1)", BAD);
        Script.fresh("promise 6: BAD, the other").rowOf(0, 1).refused("copy(0, 0, 6, 0, 1)", BAD).refused("copy(0, 0, -1, 0, 1)", BAD);
        Script.fresh("promise 6: SIZE: n below 0").rowOf(0, 1).rowOf(1, 2).finds("copy(0, 0, 1, 0, -1)", SIZE).finds("copy(0, 0, 1, 0, " + MIN + ")", SIZE);
        Script.fresh("promise 6: NOTHING: either").rowOf(0, 1).finds("copy(0, 0, 1, 0, 1)", NOTHING).finds("copy(1, 0, 0, 0, 1)", NOTHING).finds("copy(2, 0, 3, 0, 0)", NOTHING);
        Script.fresh("promise 6: BEYOND: not so many there, the one").rowOf(0, 1, 2).rowOf(1, 3, 4, 5).finds("copy(0, 0, 1, 0, 3)", BEYOND).finds("copy(0, 1, 1, 0, 2)", BEYOND).finds("copy(0, 2, 1, 0, 1)", BEYOND).holds(1, 3, 4, 5);
        Script.fresh("promise 6: BEYOND: not so many there, the other").rowOf(0, 1, 2, 3).rowOf(1, 4, 5).finds("copy(0, 0, 1, 0, 3)", BEYOND).finds("copy(0, 0, 1, 1, 2)", BEYOND).finds("copy(0, 0, 1, 2, 1)", BEYOND).holds(1, 4, 5);
        Script.fresh("promise 6: BEYOND: also with n 0, below 0").rowOf(0, 1).rowOf(1, 2).finds("copy(0, -1, 1, 0, 0)", BEYOND).finds("copy(0, 0, 1, -1, 0)", BEYOND);
        Script.fresh("promise 6: BEYOND: also with n 0, above its size").rowOf(0, 1).rowOf(1, 2).finds("copy(0, 2, 1, 0, 0)", BEYOND).finds("copy(0, 0, 1, 2, 0)", BEYOND);
        Script.fresh("promise 6: BEYOND, where i and n go beyond the ints").rowOf(0, 1, 2).rowOf(1, 3, 4).finds("copy(0, 1, 1, 0, " + MAX + ")", BEYOND)
            .finds("copy(0, 0, 1, 1, " + MAX + ")", BEYOND).finds("copy(0, " + MAX + ", 1, 0, " + MAX + ")", BEYOND).finds("copy(0, " + MIN + ", 1, 0, " + MAX + ")", BEYOND).holds(1, 3, 4);
    }

    private static void copyOrder() {
        Script.fresh("promise 6, in this order: BAD, SIZE").refused("copy(6, -1, 0, -1, -1)", BAD).refused("copy(0, -1, 6, -1, -1)", BAD);
        Script.fresh("promise 6, in this order: SIZE, NOTHING").finds("copy(0, -1, 1, -1, -1)", SIZE);
        Script.fresh("promise 6, in this order: SIZE, BEYOND").rowOf(0).finds("copy(0, -1, 0, -1, -1)", SIZE);
        Script.fresh("promise 6, in this order: NOTHING, BEYOND").rowOf(0).finds("copy(0, -1, 1, -1, 1)", NOTHING).finds("copy(1, -1, 0, -1, 1)", NOTHING);
    }

    private static void copyOntoItself() {
        Script.fresh("promise 6: as if taken ahead, upwards").rowOf(0, 1, 2, 3, 4).due("copy(0, 0, 0, 1, 3)", 1).holds(0, 1, 1, 2, 3);
        Script.fresh("promise 6: as if taken ahead, downwards").rowOf(0, 1, 2, 3, 4).due("copy(0, 1, 0, 0, 3)", 1).holds(0, 2, 3, 4, 4);
        Script.fresh("promise 6: perhaps itself, the same places").rowOf(0, 1, 2, 3).aside("copy(0, 0, 0, 0, 3)", 1);
    }

    private static void meanBounds() {
        Script.fresh("promise 7: of one int").rowOf(0, 7).told("mean(0)", 7).rowOf(0, MIN).told("mean(0)", MIN).rowOf(0, MAX).told("mean(0)", MAX);
        Script.fresh("promise 7: cut").rowOf(0, 1, 2).told("mean(0)", 1).rowOf(0, 0, 0, 2).told("mean(0)", 0).rowOf(0, 3, 3, 2).told("mean(0)", 2);
        Script.fresh("promise 7: cut, below 0").rowOf(0, -1, -2).told("mean(0)", -1).rowOf(0, 0, 0, -2).told("mean(0)", 0);
        Script.fresh("promise 7: more than an int together").rowOf(0, MAX, MAX).told("mean(0)", MAX).rowOf(0, MIN, MIN, MIN).told("mean(0)", MIN).rowOf(0, MAX, 1).told("mean(0)", 1 << 30).rowOf(0, MIN, -2).told("mean(0)", -(1 << 30) - 1);
        Script s = Script.fresh("promise 7: of 40 ints").due("row(4, 40)", 40);
        for (int i = 0; i < 40; i++) {
            s.told("lay(4, " + i + ", " + MAX + ")", 0);
        }
        s.told("mean(4)", MAX).told("lay(4, 39, " + MIN + ")", MAX).told("mean(4)", (39L * MAX + MIN) / 40);
        Script.fresh("promise 7: BAD").refused("mean(6)", BAD).refused("mean(-1)", BAD);
        Script.fresh("promise 7: NOTHING").refused("mean(0)", FINDING).finds("mean(5)", NOTHING);
        Script.fresh("promise 7: NOUGHT").rowOf(0).refused("mean(0)", FINDING).finds("mean(0)", NOUGHT);
    }

    private static void textBounds() {
        Script.fresh("promise 8: n blanks, none").due("text(0, 0)", 0).finds("put(0, 0, 1)", BEYOND).due("count(9)", 1);
        Script s = Script.fresh("promise 8: n blanks, 60").due("text(3, 60)", 60);
        for (int i = 0; i < 60; i++) {
            s.due("put(3, " + i + ", " + (i - 30) + ")", 1032);
        }
        s.finds("put(3, 60, 1)", BEYOND).due("text(3, 60)", 60);
        for (int i = 0; i < 60; i++) {
            s.due("put(3, " + i + ", 0)", 1032);
        }
        Script.fresh("promise 8: BAD: a TEXT that there is not").refused("text(4, 1)", BAD).refused("text(-1, 1)", BAD).refused("text(" + MAX + ", 1)", BAD).refused("text(" + MIN + ", 1)", BAD);
        Script.fresh("promise 8: BAD: also n above 60").due("text(0, 1)", 1).refused("text(0, 61)", BAD).refused("text(0, " + MAX + ")", BAD).due("put(0, 0, 1)", 1032);
        Script.fresh("promise 8: SIZE: below 0").due("text(0, 1)", 1).finds("text(0, -1)", SIZE).finds("text(0, " + MIN + ")", SIZE).finds("text(1, -1)", SIZE).due("count(9)", 1);
    }

    private static void putPlaces() {
        Script.fresh("promise 9: the first place, the last one").due("text(0, 2)", 2).due("put(0, 0, 1)", 1032).due("put(0, 1, 2)", 1032).due("put(0, 0, 3)", 1001).due("put(0, 1, 3)", 1002);
        Script.fresh("promise 9: BAD").refused("put(4, 0, 1)", BAD).refused("put(-1, 0, 1)", BAD);
        Script.fresh("promise 9: NOTHING").refused("put(0, 0, 1)", FINDING).finds("put(3, 0, 1)", NOTHING).finds("put(0, -1, 1)", NOTHING);
        Script.fresh("promise 9: BEYOND").due("text(0, 2)", 2).refused("put(0, 2, 1)", FINDING).finds("put(0, 2, 1)", BEYOND).finds("put(0, -1, 1)", BEYOND)
            .finds("put(0, " + MAX + ", 1)", BEYOND).finds("put(0, " + MIN + ", 1)", BEYOND);
        Script.fresh("promise 9: BEYOND, a TEXT without places").due("text(0, 0)", 0).finds("put(0, 0, 1)", BEYOND);
    }

    /** cut to a byte (-128 .. 127) */
    private static void putWraps() {
        int[][] cuts = {{127, 127}, {128, -128}, {-128, -128}, {-129, 127}, {255, -1}, {256, 0}, {-256, 0}, {383, 127}, {384, -128}, {MAX, -1}, {MIN, 0}, {MIN + 128, -128}, {-1, -1}};
        for (int[] cut : cuts) {
            Script.fresh("promise 9: cut to a byte: " + cut[0]).due("text(0, 1)", 1).due("put(0, 0, " + cut[0] + ")", 1032).due("put(0, 0, 0)", 1000 + cut[1]);
        }
    }
}
