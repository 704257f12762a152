/** What KITES LIFT (ahead of the promises) and promises 12 to 22: a test for each sentence that names a bound. */
public final class BoundsOfKitesTests {
    private static final int BAD = -1, FULL = -2, FINDING = -3, STATE = -4, NONE = -9;
    private static final int NOTHING = 1, UNLIKE = 3;
    private static final int MIN = Integer.MIN_VALUE, MAX = Integer.MAX_VALUE;

    public static void main(String[] args) {
        liftsOfKinds();
        liftedAbove();
        flownOnce();
        kiteBounds();
        markHandkerchief();
        markChilds();
        markBox();
        markJudges();
        markStringless();
        markRefused();
        liftsBounds();
        paysBounds();
        flyBounds();
        restBounds();
        tieBounds();
        cutBounds();
        deedsAtMost();
        fullLast();
        undoBounds();
        keepBounds();
        onBounds();
        Script.end();
    }

    /** What KITES of all KINDS, alike else, LIFT in a WIND. */
    private static void lift(String what, String like, int wind, int... lifts) {
        String kites = "k" + like + "h" + like + "c" + like + "b" + like + "j" + like + "s" + like;
        Script s = Script.parish(what, "w000000" + kites);
        for (int i = 0; i < 6; i++) {
            s.due("lifts(" + i + ", " + wind + ")", lifts[i]);
        }
    }

    private static void liftsOfKinds() {
        lift("no WIND: nothing, but JUDGE'S", "990", 0, 0, 0, 0, 0, 1, 0);
        lift("half, cut: 1 by 1", "190", 1, 0, 0, 0, 0, 1, 1);
        lift("half, cut: 3 by 3", "390", 3, 4, 1, 2, 6, 1, 9);
        lift("half: the most", "990", 9, 40, 13, 0, 42, 13, 51);
        lift("less 2 for each of its TAIL: 1", "491", 2, 2, 0, 1, 4, 1, 6);
        lift("less 2 for each of its TAIL: 2", "492", 2, 0, 0, 0, 4, 1, 6);
        lift("0 at least", "493", 2, 0, 0, 0, 4, 1, 6);
        lift("0 at least, from 1 above", "191", 6, 1, 0, 0, 5, 1, 11);
        lift("the longest TAIL", "993", 9, 34, 11, 0, 42, 11, 51);
        lift("a third, cut: of 5", "590", 2, 5, 1, 2, 5, 1, 7);
        lift("a third: of 6", "690", 2, 6, 2, 3, 6, 2, 8);
        lift("a CHILD'S one in a WIND of 6", "890", 6, 24, 8, 12, 26, 8, 32);
        lift("a CHILD'S one: nothing in a WIND above 6", "890", 7, 28, 9, 0, 30, 9, 37);
        lift("a BOX in a WIND of 2", "892", 2, 4, 1, 2, 8, 1, 10);
        lift("a BOX: 2 more in a WIND of 3", "892", 3, 8, 2, 4, 14, 2, 17);
        lift("a JUDGE'S one: 1 at least, of 2", "290", 2, 2, 0, 1, 2, 1, 4);
        lift("a JUDGE'S one: 1 at least, of 3", "390", 2, 3, 1, 1, 3, 1, 5);
    }

    /** more than 4 times as much as one is HEAVY */
    private static void liftedAbove() {
        Script.parish("LIFTED: 4 times as much", "w000000k820").due("lifts(0, 2)", 8).due("pays(0, 2)", 8);
        Script.parish("LIFTED: 1 more than 4 times", "w000000k920").due("lifts(0, 2)", 9).due("pays(0, 2)", NONE);
        Script.parish("LIFTED: HEAVY 0, nothing LIFTED", "w000000k900").due("lifts(0, 0)", 0).due("pays(0, 0)", 0);
        Script.parish("LIFTED: HEAVY 0, 1 LIFTED", "w000000k100j100").due("lifts(0, 2)", 1).due("pays(0, 2)", NONE).due("pays(1, 0)", NONE);
        Script.parish("LIFTED: HEAVY 9, 36 and 38", "w000000k890 b890").due("lifts(0, 9)", 36).due("pays(0, 9)", 36).due("lifts(1, 9)", 38).due("pays(1, 9)", NONE);
        Script.parish("LIFTED: then it PAYS nothing", "w922200k940").told("kite(0, 5)", 0).due("fly(0)", 0).due("count(6)", 0).due("count(5)", 1);
        Script.parish("a TAIL is evasion: no more LIFTED", "w333300k931").due("lifts(0, 3)", 11).due("pays(0, 3)", 11).due("cut(0)", 0).due("lifts(0, 3)", 13).due("pays(0, 3)", NONE);
    }

    private static void flownOnce() {
        Script.parish("HOUR 0 at first, no KITE was flown, nothing is PAID", "w234500k990").due("count(1)", 0).due("count(4)", 0).due("count(6)", 0).due("count(2)", 0);
        Script s = Script.parish("flown once", "w234500k990k890").due("fly(0)", 9).refused("fly(0)", STATE).due("rest()", 2).refused("fly(0)", STATE).due("fly(1)", 16).refused("fly(1)", STATE);
        s.due("count(6)", 25).due("undo(1)", 2).refused("fly(0)", STATE).due("undo(0)", 1).due("fly(0)", 9);
        Script.parish("flown in the WIND of that HOUR", "w050000k990").due("rest()", 1).due("fly(0)", 22).told("kite(0, 6)", 22).told("kite(0, 4)", 0);
        Script.parish("flown in HOUR 4, the WIND of HOUR 0", "w900000k290").due("rest()", 1).due("rest()", 2).due("rest()", 3).due("rest()", 4).due("fly(0)", 9);
        Script.parish("flown in HOUR 3", "w000900k290").due("rest()", 1).due("rest()", 2).due("rest()", 3).due("fly(0)", 9).due("count(3)", 0);
    }

    private static void kiteBounds() {
        Script s = Script.parish("promise 12: 0 .. 6", "w654399h853s713");
        int[] first = {1, 8, 5, 3, 6, 6, NONE};
        int[] second = {5, 7, 1, 3, 29, 0, NONE};
        for (int what = 0; what <= 6; what++) {
            s.aside("kite(0, " + what + ")", 1).due("asked()", first[what]).aside("kite(1, " + what + ")", 1).due("asked()", second[what]);
        }
        Script.parish("promise 12: 6, PAID 0, LIFTED", "w654399s713").due("fly(0)", 0).told("kite(0, 6)", 0).due("rest()", 2).told("kite(0, 6)", 0);
        Script.parish("promise 12: 6, PAID 0, nothing LIFTED", "w004399k990").due("fly(0)", 0).told("kite(0, 6)", 0).due("count(4)", 1).due("count(5)", 0);
        Script.parish("promise 12: 6, PAID stays in other WINDS", "w240000k990").due("fly(0)", 9).told("kite(0, 4)", 18).told("kite(0, 6)", 9).due("rest()", 2).told("kite(0, 4)", 0).told("kite(0, 6)", 9);
        Script.parish("promise 12: BAD, no such KITE", "w654399h853").refused("kite(1, 0)", BAD).refused("kite(-1, 0)", BAD).refused("kite(6, 0)", BAD).refused("kite(" + MAX + ", 0)", BAD).refused("kite(" + MIN + ", 0)", BAD);
        Script.parish("promise 12: BAD, nothing such to tell", "w654399h853").refused("kite(0, 7)", BAD).refused("kite(0, -1)", BAD).refused("kite(0, " + MAX + ")", BAD).refused("kite(0, " + MIN + ")", BAD);
        Script.fresh("promise 12: BAD, without KITES").refused("kite(0, 0)", BAD).refused("kite(0, 6)", BAD);
    }

    private static void markHandkerchief() {
        Script.parish("promise 13: a HANDKERCHIEF: how much less, and 100", "w900000h990").aside("mark(0, 1)", 100 + 40 - 13);
        Script.parish("promise 13: a HANDKERCHIEF: no less", "w000000h990").aside("mark(0, 1)", 100);
        Script.parish("promise 13: JUDGE'S, too", "w900000j990").aside("mark(0, 1)", 100 + 40 - 13);
        Script.parish("promise 13: below that, if it LIFTS more", "w000000j990").aside("mark(0, 1)", 99);
        Script.parish("promise 13: as much: 1", "w200000j190").aside("mark(0, 1)", 100);
        Script.parish("promise 13: alike, its TAIL, too", "w200000h993").aside("mark(0, 1)", 100 + 3 - 1);
        Script.parish("promise 13: now", "w090000h290").aside("mark(0, 1)", 100).due("rest()", 1).aside("mark(0, 1)", 100 + 9 - 3).due("rest()", 2).aside("mark(0, 1)", 100);
    }

    private static void markChilds() {
        Script.parish("promise 13: a CHILD'S one: the greatest WIND", "w000000c990").aside("mark(0, 2)", 6);
        Script.parish("promise 13: a CHILD'S one: in WIND 6 alone", "w000000c402").due("lifts(0, 5)", 3).aside("mark(0, 2)", 6);
        Script.parish("promise 13: a CHILD'S one: NONE: in none", "w000000c103").aside("mark(0, 2)", NONE);
        Script.parish("promise 13: a CHILD'S one: 2 to be halved at least", "w000000c202c203").due("lifts(0, 6)", 1).aside("mark(0, 2)", 6).due("lifts(1, 6)", 0).aside("mark(1, 2)", NONE);
    }

    private static void markBox() {
        Script.parish("promise 13: a BOX: how much more", "w900000b993").aside("mark(0, 3)", 42 - 34);
        Script.parish("promise 13: a BOX: no more", "w200000b990").aside("mark(0, 3)", 0);
        Script.parish("promise 13: a BOX in a WIND of 3", "w300000b990").aside("mark(0, 3)", 2);
        Script.parish("promise 13: STRINGLESS, too", "w900000s993").aside("mark(0, 3)", 51 - 34);
        Script.parish("promise 13: STRINGLESS, too: no more", "w000000s993").aside("mark(0, 3)", 0);
        Script.parish("promise 13: a BOX: alike, its TAIL, too, 0 at least", "w200000b193").aside("mark(0, 3)", 1 - 0);
    }

    private static void markJudges() {
        Script.parish("promise 13: a JUDGE'S one: in one WIND", "w000000j990").aside("mark(0, 4)", 1);
        Script.parish("promise 13: a JUDGE'S one: in ten", "w000000j101").aside("mark(0, 4)", 10);
        // 1 WIDE LIFTS 3 in a WIND of 6
        Script.parish("promise 13: a JUDGE'S one: in WINDS 0 .. 5", "w000000j100").aside("mark(0, 4)", 6);
        Script.parish("promise 13: a JUDGE'S one: in WINDS 0 .. 9, the last one, too", "w000000j102").aside("mark(0, 4)", 10).due("cut(0)", 1).aside("mark(0, 4)", 10).due("cut(0)", 0).aside("mark(0, 4)", 6);
    }

    private static void markStringless() {
        Script.parish("promise 13: a STRINGLESS one: the least WIND", "w000000s900").due("lifts(0, 0)", 0).aside("mark(0, 5)", 1);
        // 4 times 7 is 28
        Script.parish("promise 13: a STRINGLESS one: the greatest such WIND", "w000000s470").due("lifts(0, 8)", 26).due("lifts(0, 9)", 29).aside("mark(0, 5)", 9);
        Script.parish("promise 13: a STRINGLESS one: NONE: in none", "w000000s190").due("lifts(0, 9)", 15).aside("mark(0, 5)", NONE);
    }

    private static void markRefused() {
        String all = "w000000k100h100c100b100j100s100";
        Script.parish("promise 13: BAD: no such KITE", "w000000h100").refused("mark(1, 1)", BAD).refused("mark(-1, 1)", BAD).refused("mark(" + MAX + ", 1)", BAD).refused("mark(" + MIN + ", 1)", BAD);
        Script.parish("promise 13: BAD: also KIND 0", all).refused("mark(0, 0)", BAD).refused("mark(1, 0)", BAD).refused("mark(5, 0)", BAD);
        Script.parish("promise 13: BAD: no such KIND", all).refused("mark(5, 6)", BAD).refused("mark(5, -1)", BAD).refused("mark(5, " + MAX + ")", BAD).refused("mark(5, " + MIN + ")", BAD);
        Script.fresh("promise 13: BAD: without KITES").refused("mark(0, 1)", BAD).refused("mark(0, 0)", BAD);
        Script.parish("promise 13: UNLIKE", all).refused("mark(0, 1)", FINDING).finds("mark(0, 5)", UNLIKE).finds("mark(1, 2)", UNLIKE).finds("mark(2, 1)", UNLIKE).finds("mark(3, 1)", UNLIKE);
        Script.parish("promise 13: UNLIKE: a HANDKERCHIEF is no JUDGE'S, a BOX no STRINGLESS one", all).refused("mark(1, 4)", FINDING).refused("mark(3, 5)", FINDING).due("mark(4, 1)", 99).due("mark(5, 3)", 0);
    }

    private static void liftsBounds() {
        Script.parish("promise 14: WINDS 0 .. 9", "w000000k990").aside("lifts(0, 0)", 0).aside("lifts(0, 9)", 40);
        Script.parish("promise 14: BAD, no such WIND", "w000000k990").refused("lifts(0, 10)", BAD).refused("lifts(0, -1)", BAD).refused("lifts(0, " + MAX + ")", BAD).refused("lifts(0, " + MIN + ")", BAD);
        Script.parish("promise 14: BAD, no such KITE", "w000000k990").refused("lifts(1, 9)", BAD).refused("lifts(-1, 9)", BAD).refused("lifts(" + MAX + ", 9)", BAD).refused("lifts(" + MIN + ", 9)", BAD);
        Script.fresh("promise 14: BAD, without KITES").refused("lifts(0, 0)", BAD);
    }

    private static void paysBounds() {
        Script.parish("promise 15: WINDS 0 .. 9", "w000000k890").aside("pays(0, 0)", 0).aside("pays(0, 9)", 36);
        Script.parish("promise 15: NONE: who flies it is LIFTED", "w000000k990").aside("pays(0, 8)", 36).aside("pays(0, 9)", NONE);
        Script.parish("promise 15: BAD, no such WIND", "w000000k990").refused("pays(0, 10)", BAD).refused("pays(0, -1)", BAD).refused("pays(0, " + MAX + ")", BAD).refused("pays(0, " + MIN + ")", BAD);
        Script.parish("promise 15: BAD, no such KITE", "w000000k990").refused("pays(1, 9)", BAD).refused("pays(-1, 9)", BAD).refused("pays(" + MAX + ", 9)", BAD).refused("pays(" + MIN + ", 9)", BAD);
        Script.fresh("promise 15: BAD, without KITES").refused("pays(0, 0)", BAD);
    }

    private static void flyBounds() {
        Script.parish("promise 16: what it PAYS", "w200000k990k890").due("fly(0)", 9).due("count(1)", 1).due("count(2)", 1).due("count(6)", 9).due("count(4)", 1);
        Script.parish("promise 16: 0: who flies it is LIFTED", "w900000k990").due("fly(0)", 0).due("count(5)", 1).due("count(1)", 1).due("count(2)", 1).due("count(6)", 0);
        Script.parish("promise 16: 0: it LIFTS nothing", "w000000k990").due("fly(0)", 0).due("count(5)", 0).due("count(4)", 1).due("count(1)", 1);
        Script.parish("promise 16: BAD", "w200000k990").refused("fly(1)", BAD).refused("fly(-1)", BAD).refused("fly(6)", BAD).refused("fly(" + MAX + ")", BAD).refused("fly(" + MIN + ")", BAD);
        Script.fresh("promise 16: BAD, without KITES").refused("fly(0)", BAD);
        Script.parish("promise 16: STATE: it was", "w200000k990k890").due("fly(0)", 9).refused("fly(0)", STATE).due("fly(1)", 0).refused("fly(1)", STATE).refused("fly(0)", STATE);
    }

    private static void restBounds() {
        Script.parish("promise 17: the HOUR then", "w200000k990").due("rest()", 1).due("count(1)", 1).due("count(2)", 1).due("count(4)", 0).due("count(6)", 0).due("fly(0)", 0).due("rest()", 3);
        Script.fresh("promise 17: STATE: no KITES").refused("rest()", STATE).write(0, "w99").due("parish(0)", STATE).refused("rest()", STATE);
    }

    private static void tieBounds() {
        Script.parish("promise 18: 1 longer, up to 3", "w900000k990").due("tie(0)", 1).due("tie(0)", 2).due("tie(0)", 3).told("kite(0, 3)", 3).told("kite(0, 4)", 34).due("count(2)", 3).due("count(1)", 0);
        Script.parish("promise 18: STATE: it is 3", "w900000k993k992").refused("tie(0)", STATE).due("tie(1)", 3).refused("tie(1)", STATE);
        Script.parish("promise 18: BAD", "w900000k990").refused("tie(1)", BAD).refused("tie(-1)", BAD).refused("tie(6)", BAD).refused("tie(" + MAX + ")", BAD).refused("tie(" + MIN + ")", BAD);
        Script.fresh("promise 18: BAD, without KITES").refused("tie(0)", BAD);
    }

    private static void cutBounds() {
        Script.parish("promise 19: 1 shorter, down to 0", "w900000k993").due("cut(0)", 2).due("cut(0)", 1).due("cut(0)", 0).told("kite(0, 3)", 0).told("kite(0, 4)", 40).due("count(2)", 3).due("count(1)", 0);
        Script.parish("promise 19: STATE: it is 0", "w900000k990k991").refused("cut(0)", STATE).due("cut(1)", 0).refused("cut(1)", STATE);
        Script.parish("promise 19: BAD", "w900000k993").refused("cut(1)", BAD).refused("cut(-1)", BAD).refused("cut(6)", BAD).refused("cut(" + MAX + ")", BAD).refused("cut(" + MIN + ")", BAD);
        Script.fresh("promise 19: BAD, without KITES").refused("cut(0)", BAD);
    }

    /** A PARISH of four KITES on which so many HOURS have passed. */
    private static Script passed(String what, int hours) {
        Script s = Script.parish(what, "w111100k990k993k991k992");
        for (int hour = 1; hour <= hours; hour++) {
            s.due("rest()", hour);
        }
        return s;
    }

    /** DEEDS (40 at most) */
    private static void deedsAtMost() {
        passed("promise 16: the 40th DEED", 39).due("fly(0)", 4).due("count(2)", 40).refused("fly(1)", FULL);
        passed("promise 17: the 40th DEED", 39).due("rest()", 40).due("count(2)", 40).refused("rest()", FULL);
        passed("promise 18: the 40th DEED", 39).due("tie(0)", 1).due("count(2)", 40).refused("tie(2)", FULL);
        passed("promise 19: the 40th DEED", 39).due("cut(1)", 2).due("count(2)", 40).refused("cut(2)", FULL);
        passed("promise 16: FULL: 40 DEEDS", 40).refused("fly(0)", FULL).refused("fly(3)", FULL).due("undo(39)", 1).due("fly(0)", 4);
        passed("promise 17: FULL", 40).refused("rest()", FULL).due("undo(39)", 1).due("rest()", 40);
        passed("promise 18: FULL", 40).refused("tie(0)", FULL).due("undo(39)", 1).due("tie(0)", 1);
        passed("promise 19: FULL", 40).refused("cut(1)", FULL).due("undo(39)", 1).due("cut(1)", 2);
        passed("promise 20: all 40 undone", 40).due("undo(40)", 0).due("undo(0)", 40).due("count(1)", 0).due("rest()", 1);
        passed("promises 21, 22: 40 DEEDS kept", 40).due("keep(0)", 40).due("undo(0)", 40).due("on(0)", 40).due("count(1)", 40).refused("rest()", FULL).due("undo(39)", 1);
    }

    /** FULL last */
    private static void fullLast() {
        passed("promise 16: FULL last", 39).due("fly(0)", 4).refused("fly(0)", STATE).refused("fly(4)", BAD).refused("fly(1)", FULL);
        passed("promise 18: FULL last", 40).refused("tie(1)", STATE).refused("tie(4)", BAD).refused("tie(0)", FULL);
        passed("promise 19: FULL last", 40).refused("cut(0)", STATE).refused("cut(4)", BAD).refused("cut(1)", FULL);
    }

    private static void undoBounds() {
        Script.parish("promise 20: n 0: all", "w200000k990").due("fly(0)", 9).due("tie(0)", 1).due("rest()", 2).due("undo(0)", 3).due("count(2)", 0).due("count(1)", 0).due("count(6)", 0).told("kite(0, 3)", 0).told("kite(0, 6)", NONE);
        Script.parish("promise 20: n how many there are: then 0", "w200000k990").due("fly(0)", 9).due("rest()", 2).aside("undo(2)", 0).due("count(2)", 2);
        Script.parish("promise 20: from number n on", "w200000k990").due("tie(0)", 1).due("tie(0)", 2).due("cut(0)", 1).due("undo(2)", 1).told("kite(0, 3)", 2).due("undo(1)", 1).told("kite(0, 3)", 1);
        Script.parish("promise 20: BAD", "w200000k990").due("fly(0)", 9).refused("undo(2)", BAD).refused("undo(-1)", BAD).refused("undo(" + MAX + ")", BAD).refused("undo(" + MIN + ")", BAD).due("undo(0)", 1).refused("undo(1)", BAD);
        Script.parish("promise 20: no DEEDS: then 0", "w200000k990").aside("undo(0)", 0);
        Script.fresh("promise 20: without KITES").aside("undo(0)", 0).refused("undo(1)", BAD).refused("undo(-1)", BAD);
        Script.parish("promise 20: who was LIFTED, is no more", "w900000k990").due("fly(0)", 0).due("undo(0)", 1).due("count(5)", 0).due("count(4)", 0);
    }

    private static void keepBounds() {
        Script.parish("promise 21: places 0 .. 2", "w200000k990").due("keep(0)", 0).due("rest()", 1).due("keep(1)", 1).due("rest()", 2).due("keep(2)", 2).due("count(10)", 3)
            .due("on(0)", 0).due("count(1)", 0).due("on(2)", 2).due("count(1)", 2).due("on(1)", 1).due("count(1)", 1);
        Script.parish("promise 21: what was kept in the place goes", "w200000k990").due("keep(1)", 0).due("fly(0)", 9).due("keep(1)", 1).due("count(10)", 1).due("undo(0)", 1).due("on(1)", 1).due("count(6)", 9);
        Script.parish("promise 21: BAD", "w200000k990").refused("keep(3)", BAD).refused("keep(-1)", BAD).refused("keep(" + MAX + ")", BAD).refused("keep(" + MIN + ")", BAD);
        Script.fresh("promise 21: STATE: no KITES").refused("keep(0)", STATE).refused("keep(2)", STATE).refused("keep(3)", BAD).due("count(10)", 0);
    }

    private static void onBounds() {
        Script.parish("promise 22: as it was kept, whatever was done", "w290000k990k891").due("fly(0)", 9).due("tie(1)", 2).due("keep(0)", 2).due("undo(0)", 2).due("fly(1)", 6).due("cut(1)", 0).due("rest()", 2)
            .due("on(0)", 2).told("kite(0, 6)", 9).told("kite(1, 6)", NONE).told("kite(1, 3)", 2).due("count(1)", 1).due("count(6)", 9).due("count(4)", 1).due("undo(1)", 1).told("kite(1, 3)", 1);
        Script.parish("promise 22: it is kept on", "w290000k990").due("keep(0)", 0).due("fly(0)", 9).due("on(0)", 0).due("fly(0)", 9).due("on(0)", 0).due("count(4)", 0).due("count(10)", 1);
        Script.parish("promise 22: BAD", "w200000k990").due("keep(0)", 0).refused("on(3)", BAD).refused("on(-1)", BAD).refused("on(" + MAX + ")", BAD).refused("on(" + MIN + ")", BAD);
        Script.parish("promise 22: NOTHING", "w200000k990").due("keep(0)", 0).refused("on(1)", FINDING).finds("on(2)", NOTHING);
        Script.fresh("promise 22: NOTHING, without KITES").refused("on(0)", FINDING).finds("on(2)", NOTHING);
    }
}
