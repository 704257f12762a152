/** Promises 34 to 43: chances, means, lots, what is told: a test for each sentence that names a bound. */
public final class BoundsOfChancesTests {
    private static final int BAD = -1, FULL = -2, FINDING = -3, STATE = -4, NONE = -9;
    private static final int NOTHING = 1, BEYOND = 2, UNLIKE = 3, NOUGHT = 4, SIZE = 5;
    private static final int MIN = Integer.MIN_VALUE, MAX = Integer.MAX_VALUE;

    public static void main(String[] args) {
        oddsBounds();
        oddsRefused();
        midBounds();
        midRefused();
        lotsBounds();
        lotsDeeds();
        lotsWrap();
        lotsFull();
        lotsRefused();
        askedTold();
        askedStays();
        upperLower();
        countAtFirst();
        countBounds();
        countRefused();
        findingBounds();
        findingsBounds();
        digestMissing();
        digestOfAll();
        digestWraps();
        Script.end();
    }

    private static void oddsBounds() {
        Script.parish("promise 34: p 0", "w222204k490").chance("odds(0)", 1, 1);
        Script.parish("promise 34: p 12", "w222204k490").chance("odds(12)", 0, 1);
        Script.parish("promise 34: p 1, 11", "w222204k490").chance("odds(1)", 11, 12).chance("odds(11)", 1, 12);
        Script.parish("promise 34: in lowest terms", "w222204k490").chance("odds(6)", 1, 2).chance("odds(4)", 2, 3).chance("odds(9)", 1, 4);
        Script.parish("promise 34: as much", "w222204k490").chance("odds(0)", 1, 1);
        Script.parish("promise 34: or more", "w222203k490").chance("odds(0)", 1, 1);
        Script.parish("promise 34: 1 less: 0 by 1", "w222205k490").chance("odds(0)", 0, 1).chance("odds(5)", 0, 1);
        Script.parish("promise 34: with what was PAID", "w222208k490k490").due("fly(1)", 4).chance("odds(3)", 3, 4);
        Script.parish("promise 34: none that was not flown, enough", "w222204k490").due("fly(0)", 4).chance("odds(0)", 1, 1).chance("odds(12)", 1, 1);
        Script.parish("promise 34: none that was not flown, not enough", "w222205k490").due("fly(0)", 4).chance("odds(0)", 0, 1).chance("odds(12)", 0, 1);
        Script.parish("promise 34: nothing wanted", "w222200k490").chance("odds(12)", 1, 1);
        Script.parish("promise 34: six, all needed", "w222224k490k490k490k490k490k490").chance("odds(11)", 1, 2985984).chance("odds(0)", 1, 1).chance("odds(12)", 0, 1);
        Script.parish("promise 34: six, one needed", "w222204k490k490k490k490k490k490").chance("odds(1)", 2985983, 2985984).chance("odds(6)", 63, 64);
        Script.parish("promise 34: flown by numbers, one an HOUR, HOUR 4 as HOUR 0", "w200002k190k190k190k190k190").chance("odds(0)", 1, 1).chance("odds(6)", 1, 4);
        Script.parish("promise 34: from HOUR 3 on", "w900909k290k290").due("rest()", 1).due("rest()", 2).due("rest()", 3).chance("odds(0)", 1, 1).chance("odds(6)", 3, 4);
        Script.parish("promise 34: calm is WIND 0, who is LIFTED in a WIND PAYS nothing", "w999901k900j190").chance("odds(6)", 1, 1).chance("odds(0)", 1, 1).chance("odds(12)", 1, 1);
        Script.parish("promise 34: aside", "w222204k490k490").aside("odds(3)", 1).due("asked()", 0);
    }

    private static void oddsRefused() {
        Script.parish("promise 34: BAD", "w222204k490").chance("odds(6)", 1, 2).refused("odds(13)", BAD).refused("odds(-1)", BAD).refused("odds(" + MAX + ")", BAD).refused("odds(" + MIN + ")", BAD);
        Script.fresh("promise 34: STATE: no KITES").refused("odds(0)", STATE).refused("odds(12)", STATE).refused("odds(13)", BAD).due("upper()", 0).due("lower()", 1);
    }

    private static void midBounds() {
        Script.parish("promise 35: p 0", "w222200k490").chance("mid(0)", 4, 1);
        Script.parish("promise 35: p 12: 0 by 1", "w222200k490").chance("mid(12)", 0, 1);
        Script.parish("promise 35: p 1, 11", "w222200k190").chance("mid(1)", 11, 12).chance("mid(11)", 1, 12);
        Script.parish("promise 35: in lowest terms", "w222200k290").chance("mid(3)", 3, 2).chance("mid(6)", 1, 1).chance("mid(9)", 1, 2);
        Script.parish("promise 35: with what was", "w222200k490k290").due("fly(0)", 4).chance("mid(12)", 4, 1).chance("mid(0)", 6, 1).chance("mid(3)", 11, 2);
        Script.parish("promise 35: none that was not flown", "w222200k490").due("fly(0)", 4).chance("mid(5)", 4, 1);
        Script.parish("promise 35: nothing at all", "w000000k490").chance("mid(5)", 0, 1);
        Script.parish("promise 35: HOUR 4 as HOUR 0", "w200000k190k190k190k190k190").chance("mid(0)", 2, 1).chance("mid(6)", 1, 1);
        Script.parish("promise 35: a JUDGE'S one on a calm HOUR", "w222200j990").chance("mid(12)", 1, 1).chance("mid(6)", 2, 1);
        Script.parish("promise 35: LIFTED in the WIND, PAYS 0", "w999900k900").chance("mid(0)", 0, 1).chance("mid(7)", 0, 1);
        Script.parish("promise 35: six, the most", "w888800k890k890k890k890k890k890").chance("mid(0)", 192, 1).chance("mid(1)", 176, 1);
        Script.parish("promise 35: aside", "w222204k490k490").aside("mid(3)", 1).due("asked()", 0);
    }

    private static void midRefused() {
        Script.parish("promise 35: BAD", "w222204k490").chance("mid(3)", 3, 1).refused("mid(13)", BAD).refused("mid(-1)", BAD).refused("mid(" + MAX + ")", BAD).refused("mid(" + MIN + ")", BAD);
        Script.fresh("promise 35: STATE: no KITES").refused("mid(0)", STATE).refused("mid(12)", STATE).refused("mid(13)", BAD);
    }

    private static void lotsBounds() {
        Script.parish("promise 36: 1 DEED", "w222200k490").due("lots(1, 1)", 4).due("count(2)", 1).due("count(4)", 1);
        // 48271 by 8 is 6033, cut
        Script.parish("promise 36: by 8, cut", "w222200k190k490").due("lots(1, 1)", 4).due("count(4)", 2);
        Script.parish("promise 36: 20 DEEDS", "w222200k490").due("lots(20, 1)", 4).due("count(2)", 20).due("count(1)", 17).told("kite(0, 3)", 3);
        Script.parish("promise 36: 20 DEEDS of six", "w269430k861h982c650b492j970s513").due("lots(20, 1)", 26).due("count(1)", 19).told("kite(0, 3)", 2).told("kite(2, 3)", 0);
        Script.parish("promise 36: the least seed, again", "w222200k190k490").due("lots(1, 1)", 4).due("undo(0)", 1).due("lots(1, 1)", 4).due("count(4)", 2);
        Script.parish("promise 36: the DEEDS are undone, kept as any", "w222200k490").due("lots(6, 1)", 4).due("keep(0)", 6).due("undo(1)", 5).told("kite(0, 3)", 0).due("count(6)", 4).due("undo(0)", 1).due("count(6)", 0)
            .due("on(0)", 6).told("kite(0, 3)", 2).due("count(1)", 4);
    }

    private static void lotsDeeds() {
        // by seed 1 an odd number is flown, two even ones tie, an odd one passes; by seed 2 two even ones, an odd one
        Script.parish("promise 36: else its TAIL is 1 longer, the number is even", "w222200k490").due("lots(2, 1)", 4).told("kite(0, 3)", 1).due("count(1)", 1).due("undo(0)", 2).due("lots(3, 1)", 4).told("kite(0, 3)", 2);
        Script.parish("promise 36: else an HOUR passes, the number is odd", "w222200k490").due("lots(4, 1)", 4).told("kite(0, 3)", 2).due("count(1)", 2);
        Script.parish("promise 36: below 3: up to 3", "w222200k492").due("lots(2, 2)", 0).told("kite(0, 3)", 3).due("count(1)", 1);
        Script.parish("promise 36: else an HOUR passes, the TAIL is 3", "w222200k193").due("lots(3, 2)", 0).told("kite(0, 3)", 3).due("count(1)", 3);
        Script.parish("promise 36: who is LIFTED is flown, PAYS nothing", "w999900k900").due("lots(1, 1)", 0).due("count(5)", 1).due("count(1)", 1);
        Script.parish("promise 36: what is PAID then in all", "w222200k490k190").due("fly(0)", 4).due("lots(1, 1)", 5).due("count(6)", 5);
    }

    /** 48271 times it modulo 2147483647; a seed 1 .. 2147483646 */
    private static void lotsWrap() {
        Script.parish("promise 36: the greatest seed", "w222200k190k290k490").due("lots(1, 2147483646)", 1).due("count(4)", 1).due("undo(0)", 1).due("lots(2, 2147483646)", 3).due("count(4)", 3);
        Script.parish("promise 36: the greatest seed, 20 DEEDS", "w269430k861h982c650b492j970s513").due("lots(20, 2147483646)", 48).due("count(1)", 12).told("kite(0, 3)", 2).told("kite(1, 3)", 3).told("kite(2, 3)", 2);
        Script.parish("promise 36: the greatest seed, one KITE", "w222200k490").due("lots(20, 2147483646)", 4).due("count(1)", 17).told("kite(0, 3)", 3);
    }

    private static void lotsFull() {
        Script.parish("promise 36: 40 DEEDS, no more", "w222200k490").due("lots(20, 1)", 4).due("lots(20, 1)", 4).due("count(2)", 40).refused("lots(1, 1)", FULL).refused("lots(20, 1)", FULL);
        Script.parish("promise 36: FULL: with n more there would be 41", "w222200k490").due("lots(20, 1)", 4).due("lots(1, 1)", 4).refused("lots(20, 1)", FULL).due("lots(19, 1)", 4).due("count(2)", 40);
        Script.parish("promise 36: FULL last", "w222200k490").due("lots(20, 1)", 4).due("lots(20, 1)", 4).refused("lots(0, 1)", BAD).refused("lots(21, 1)", BAD).refused("lots(1, 0)", BAD).refused("lots(1, 2147483647)", BAD);
    }

    private static void lotsRefused() {
        Script.parish("promise 36: BAD, n", "w222200k490").refused("lots(0, 1)", BAD).refused("lots(21, 1)", BAD).refused("lots(-1, 1)", BAD).refused("lots(" + MAX + ", 1)", BAD).refused("lots(" + MIN + ", 1)", BAD);
        Script.parish("promise 36: BAD, a seed", "w222200k490").refused("lots(1, 0)", BAD).refused("lots(1, -1)", BAD).refused("lots(1, " + MAX + ")", BAD).refused("lots(1, " + MIN + ")", BAD);
        Script.fresh("promise 36: STATE: no KITES").refused("lots(1, 1)", STATE).refused("lots(20, 2147483646)", STATE).refused("lots(21, 1)", BAD).refused("lots(1, 0)", BAD);
    }

    private static void askedTold() {
        Script.fresh("promise 37: 0 before").due("asked()", 0).refused("at(0, 0)", FINDING).due("asked()", 0);
        Script.fresh("promise 37: lay()").rowOf(0, 7).told("lay(0, 0, 8)", 7);
        Script.fresh("promise 37: at()").rowOf(0, 7).told("at(0, 0)", 7);
        Script.fresh("promise 37: mean()").rowOf(0, 7, 8).told("mean(0)", 7);
        Script.parish("promise 37: kite()", "w222200k490").told("kite(0, 1)", 4);
        Script.parish("promise 37: flown()", "w999900k400").rowOf(0, 0).answers("flown(0)", 0, 1);
        Script.parish("promise 37: when()", "w222200k490").answers("when(0)", 0, 4);
        Script.parish("promise 37: crossed()", "w222200k490k490").answers("crossed(11, 2)", 1, 1);
        Script.parish("promise 37: test()", "w222200k490").rowOf(0, 2, 4).answers("test(0, 0)", 3, 1);
        Script.parish("promise 37: the latest", "w222200k490").told("kite(0, 1)", 4).told("kite(0, 2)", 9).answers("when(0)", 0, 4);
    }

    private static void askedStays() {
        Script.parish("promise 37: that was not refused", "w222200k490").told("kite(0, 2)", 9).refused("kite(0, 7)", BAD).refused("lay(0, 0, 1)", FINDING).refused("at(0, 0)", FINDING).refused("mean(0)", FINDING)
            .refused("flown(0)", FINDING).refused("when(1)", BAD).refused("crossed(201, 0)", BAD).refused("test(0, 0)", FINDING).due("asked()", 9);
        Script.parish("promise 37: nor answered NONE", "w222200k490").told("kite(0, 2)", 9).refused("crossed(1, 0)", NONE).rowOf(0, 0, 9).due("asked()", 0).told("kite(0, 2)", 9).refused("test(0, 0)", NONE).due("asked()", 9);
        Script.parish("promise 37: no other call tells so", "w222208k490k890").told("kite(0, 2)", 9).due("row(0, 2)", 2).due("copy(0, 0, 0, 1, 1)", 1).due("tear(0)", 1).due("text(0, 1)", 1).due("put(0, 0, 119)", 1032).due("fault(0)", 1)
            .due("parish(3)", 2).due("mark(0, 1)", FINDING).due("lifts(0, 2)", 4).due("pays(0, 2)", 4).due("rest()", 1).due("tie(0)", 1).due("cut(0)", 0).due("undo(0)", 3).due("keep(0)", 0).due("on(0)", 0)
            .due("most(2, 0)", 12).due("school(0)", 1).due("cross(0, 1, 2)", 15).due("merge(2, 0)", 15).due("row(0, 0)", 0).due("tails(0, 0)", 15).due("kinds(0, 0)", 63).due("duel(1)", 8).due("odds(1)", 1).due("mid(1)", 1)
            .due("fly(0)", 4).due("undo(0)", 1).due("lots(1, 1)", 8).due("count(1)", 1).due("finding()", UNLIKE).due("findings(3)", 1).due("asked()", 9);
    }

    private static void upperLower() {
        Script.fresh("promises 38, 39: 0 before, 1 before").due("upper()", 0).due("lower()", 1);
        Script.parish("promises 38, 39: 0 by 1", "w000001k490").chance("odds(5)", 0, 1).chance("mid(5)", 0, 1);
        Script.parish("promises 38, 39: told last", "w222204k490").chance("odds(3)", 3, 4).chance("mid(1)", 11, 3).chance("odds(3)", 3, 4);
        Script.parish("promises 38, 39: what is refused tells nothing", "w222204k490").chance("odds(3)", 3, 4).refused("mid(13)", BAD).refused("odds(13)", BAD).due("upper()", 3).due("lower()", 4);
        Script.parish("promises 38, 39: a ROW's mean is told by asked() alone", "w222204k490").chance("odds(3)", 3, 4).rowOf(0, 1, 2).told("mean(0)", 1).due("upper()", 3).due("lower()", 4);
        Script.parish("promises 38, 39: by a new PARISH they stay", "w222204k490").chance("odds(3)", 3, 4).due("parish(3)", 1).due("upper()", 3).due("lower()", 4);
    }

    private static void countAtFirst() {
        for (int what = 0; what <= 11; what++) {
            Script.fresh("promise 40: of a new object").aside("count(" + what + ")", 0);
        }
    }

    private static void countBounds() {
        Script.parish("promise 40: 0: six KITES", "w222200k100k100k100k100k100k100").due("count(0)", 6).due("count(11)", 0);
        Script.parish("promise 40: 1, 3: the HOUR, its WIND", "w987600k100").due("count(1)", 0).due("count(3)", 9).due("rest()", 1).due("count(3)", 8).due("rest()", 2).due("count(3)", 7).due("rest()", 3).due("count(3)", 6).due("rest()", 4).due("count(3)", 9).due("count(1)", 4);
        Script.parish("promise 40: 2: DEEDS of all sorts", "w222200k100").due("fly(0)", 0).due("tie(0)", 1).due("cut(0)", 0).due("rest()", 2).due("count(2)", 4).due("count(1)", 2);
        Script.parish("promise 40: 4, 5: all six", "w222200k100k100k100k100k100k100").due("fly(5)", 0).due("count(4)", 32).due("count(5)", 32).due("fly(0)", 0).due("fly(1)", 0).due("fly(2)", 0).due("fly(3)", 0).due("fly(4)", 0).due("count(4)", 63).due("count(5)", 63);
        Script.parish("promise 40: 5: LIFTED then, though not now", "w900000k190k100").due("fly(1)", 0).due("count(5)", 2).due("rest()", 2).due("count(5)", 2).due("tie(1)", 1).due("count(5)", 2);
        Script.parish("promise 40: 5: not LIFTED then, though now", "w090000k100").due("fly(0)", 0).due("count(5)", 0).told("kite(0, 5)", 0).due("count(4)", 1);
        Script.parish("promise 40: 6: what is PAID", "w888800k890k890k890k890k890k890").due("fly(0)", 32).due("fly(1)", 32).due("fly(2)", 32).due("fly(3)", 32).due("fly(4)", 32).due("fly(5)", 32).due("count(6)", 192);
        Script.parish("promise 40: 7: what the SCHOOL wants", "w888899k890").due("count(7)", 99).write(0, "w888800k890").due("parish(0)", 1).due("count(7)", 0);
        Script.fresh("promise 40: 8: all ROWS").rowOf(0).rowOf(1).rowOf(2).rowOf(3).rowOf(4).rowOf(5).due("count(8)", 6).due("row(5, 1)", 1).due("count(8)", 6).due("tear(0)", 1).due("count(8)", 5);
        Script.fresh("promise 40: 9: all TEXTS").due("text(0, 0)", 0).due("text(1, 0)", 0).due("text(2, 60)", 60).due("text(3, 1)", 1).due("count(9)", 4).due("text(3, 0)", 0).due("count(9)", 4);
        Script.parish("promise 40: 10: all kept PARISHES", "w888800k890").due("keep(0)", 0).due("keep(1)", 0).due("keep(2)", 0).due("count(10)", 3).due("keep(2)", 0).due("count(10)", 3).due("on(2)", 0).due("count(10)", 3);
        Script.parish("promise 40: 11: BOXES", "w888800b100b100b100b100b100b100").due("count(11)", 6);
        Script.parish("promise 40: 11: STRINGLESS ones, too", "w888800k100h100c100b100j100s100").due("count(11)", 2);
    }

    private static void countRefused() {
        Script.fresh("promise 40: BAD").refused("count(12)", BAD).refused("count(-1)", BAD).refused("count(" + MAX + ")", BAD).refused("count(" + MIN + ")", BAD);
    }

    private static void findingBounds() {
        Script.fresh("promise 41: 0 before any").due("finding()", 0).refused("row(6, 0)", BAD).refused("rest()", STATE).due("finding()", 0);
        Script.fresh("promise 41: the latest").due("at(0, 0)", FINDING).due("finding()", NOTHING).due("row(0, -1)", FINDING).due("finding()", SIZE).due("at(0, 0)", FINDING).due("finding()", NOTHING);
        Script.fresh("promise 41: it stays").due("row(0, -1)", FINDING).due("row(0, 1)", 1).due("row(6, 1)", BAD).due("rest()", STATE).told("at(0, 0)", 0).due("finding()", SIZE).due("finding()", SIZE);
    }

    private static void findingsBounds() {
        for (int f = 1; f <= 5; f++) {
            Script.fresh("promise 42: 0 at first").aside("findings(" + f + ")", 0);
        }
        Script.parish("promise 42: how often", "w000000k100").rowOf(1).due("at(0, 0)", FINDING).due("at(1, 0)", FINDING).due("at(1, 0)", FINDING).due("mark(0, 1)", FINDING).due("mean(1)", FINDING).due("mean(1)", FINDING).due("mean(1)", FINDING)
            .due("row(0, -1)", FINDING).due("findings(1)", 1).due("findings(2)", 2).due("findings(3)", 1).due("findings(4)", 3).due("findings(5)", 1);
        Script.fresh("promise 42: what is refused else is not counted").due("row(6, 0)", BAD).due("rest()", STATE).due("findings(0)", BAD).due("findings(1)", 0).due("findings(2)", 0).due("findings(3)", 0).due("findings(4)", 0).due("findings(5)", 0);
        Script.fresh("promise 42: BAD").refused("findings(0)", BAD).refused("findings(6)", BAD).refused("findings(-1)", BAD).refused("findings(" + MAX + ")", BAD).refused("findings(" + MIN + ")", BAD);
        Script.fresh("promise 42: 2 BEYOND, 4 NOUGHT").rowOf(0).finds("at(0, 0)", BEYOND).finds("mean(0)", NOUGHT).due("findings(2)", 1).due("findings(4)", 1);
    }

    private static long digestOf(long... told) {
        long h = 17;
        for (long v : told) {
            h = 31 * h + v;
        }
        return h;
    }

    private static void digestMissing() {
        Script.fresh("promise 43: all is missing: -1").due("digest()", digestOf(0, 0, 0, 0, 0, 0, 0, 0, 0, 0, 0, 0, 0, 0, 0, 0, -1, -1, -1, -1, -1, -1, -1, -1, -1, -1, -1, -1, -1));
        Script.fresh("promise 43: without places: 0").rowOf(5).due("text(0, 0)", 0).due("digest()", digestOf(0, 0, 0, 0, 0, 0, 0, 0, 1, 1, 0, 0, 0, 0, 0, 0, -1, -1, -1, -1, -1, -1, -1, -1, 0, 0, -1, -1, -1));
        Script.fresh("promise 43: bytes below 0").due("text(3, 2)", 2).due("put(3, 0, 128)", 1032).due("digest()", digestOf(0, 0, 0, 0, 0, 0, 0, 0, 0, 1, 0, 0, 0, 0, 0, 0, -1, -1, -1, -1, -1, -1, -1, -1, -1, -1, -1, -1, 2, -128, 32));
    }

    private static void digestOfAll() {
        Script s = Script.parish("promise 43: a kept PARISH without DEEDS: 0, a KITE not flown: NONE, its TAIL as it is", "w230405j122").due("keep(1)", 0).due("tie(0)", 3).due("rest()", 1).told("kite(0, 1)", 1);
        long want = digestOf(1, 1, 2, 3, 0, 0, 0, 5, 0, 1, 1, 0, 2, 3, 0, 4, 4, 1, 2, 3, 1, 1, NONE, -1, 0, -1, -1, -1, -1, -1, -1, -1, -1, -1, -1, 11, 119, 50, 51, 48, 52, 48, 53, 106, 49, 50, 50);
        s.due("digest()", want).due("asked()", 1).due("digest()", want).due("finding()", 0);
    }

    private static void digestWraps() {
        Script s = Script.fresh("promise 43: h wraps around");
        long[] told = new long[29 + 6 * 40];
        told[8] = 6;
        for (int k = 0; k < 3; k++) {
            told[16 + k] = -1;
        }
        for (int r = 0; r < 6; r++) {
            int at = 19 + 41 * r;
            told[at] = 40;
            s.due("row(" + r + ", 40)", 40);
            for (int i = 0; i < 40; i++) {
                told[at + 1 + i] = i % 2 == 0 ? MAX : MIN;
                s.due("lay(" + r + ", " + i + ", " + told[at + 1 + i] + ")", 1);
            }
        }
        for (int t = 0; t < 4; t++) {
            told[19 + 41 * 6 + t] = -1;
        }
        s.due("digest()", digestOf(told));
    }
}
