/** Promises 37 to 43: what is told. */
public final class ToldTests {
    public static void main(String[] args) {
        asked();
        upperLower();
        count();
        findings();
        digestOfNew();
        digest();
        constants();
        Script.end();
    }

    private static void asked() {
        Script s = Script.fresh("promise 37");
        s.due("asked()", 0).rowOf(0, 5, 6).told("at(0, 1)", 6).due("row(1, 3)", 3).due("asked()", 6).refused("at(0, 2)", -3).refused("lay(0, 2, 9)", -3);
        s.told("lay(0, 1, 9)", 6).told("mean(0)", 7).refused("mean(5)", -3).due("tear(0)", 1).due("asked()", 7);
        Script t = Script.parish("promise 37, KITES", "w222200k490k890");
        t.due("asked()", 0).told("kite(1, 1)", 8).refused("kite(1, 7)", -1).rowOf(0, -9, 1).answers("flown(0)", 8, 0).answers("when(1)", 0, 8).answers("crossed(15, 2)", 1, 1);
        t.refused("crossed(14, 2)", -9).due("fly(0)", 4).due("lifts(0, 9)", 18).due("pays(0, 9)", 18).due("most(1, 5)", 8).due("cross(0, 1, 2)", 15).due("duel(1)", 8).due("odds(1)", 1).due("asked()", 1);
        t.rowOf(0).answers("test(0, 0)", 1, 2).due("tails(0, 0)", 15).due("kinds(0, 0)", 63).due("mid(5)", 1).due("lots(1, 9)", t.read("count(6)")).due("asked()", 2);
        t.told("kite(1, 6)", t.read("count(4)") == 1 ? -9 : 8).due("undo(1)", t.read("count(2)") - 1).due("digest()", t.digest());
    }

    private static void upperLower() {
        Script s = Script.fresh("promises 38, 39");
        s.due("upper()", 0).due("lower()", 1).due("odds(1)", -4).due("upper()", 0).due("lower()", 1);
        Script t = Script.parish("promises 38, 39, told", "w222204k490k490").chance("odds(3)", 15, 16).chance("mid(1)", 22, 3).due("mid(13)", -1);
        t.due("rest()", 1).write(0, "w222204k490").due("parish(0)", 1).due("upper()", 22).due("lower()", 3).chance("mid(12)", 0, 1);
    }

    private static void count() {
        Script s = Script.parish("promise 40", "w263477 k900 b490 s480 h101 j103");
        s.due("count(0)", 5).due("count(1)", 0).due("count(3)", 2).due("count(7)", 77).due("count(8)", 0).due("count(9)", 1).due("count(10)", 0).due("count(11)", 2);
        s.due("fly(1)", 4).due("fly(0)", 0).due("rest()", 3).due("tie(3)", 2).due("keep(1)", 4).rowOf(2).rowOf(4, 1);
        s.due("count(1)", 3).due("count(2)", 4).due("count(3)", 4).due("count(4)", 3).due("count(5)", 1).due("count(6)", 4).due("count(8)", 2).due("count(10)", 1);
        Script.parish("promise 40, BOXES", "w000000b100k100s100").due("count(11)", 2);
        s.due("rest()", 4).due("count(3)", 2).due("cut(0)", -4).due("count(5)", 1).due("text(0, 0)", 0).due("count(9)", 2);
        s.refused("count(12)", -1).refused("count(-1)", -1).refused("count(2147483647)", -1).refused("count(-2147483648)", -1);
    }

    private static void findings() {
        Script s = Script.fresh("promises 41, 42");
        s.due("finding()", 0);
        for (int f = 1; f <= 5; f++) {
            s.due("findings(" + f + ")", 0);
        }
        s.due("at(0, 0)", -3).due("row(0, 0)", 0).due("finding()", 1).due("at(0, 0)", -3).due("finding()", 2).due("mean(0)", -3).due("finding()", 4);
        s.due("row(0, -1)", -3).due("finding()", 5).due("row(0, 41)", -1).due("rest()", -4).due("finding()", 5).due("text(0, -1)", -3);
        s.write(0, "w000000k100").due("parish(0)", 1).due("mark(0, 1)", -3).due("finding()", 3).due("finding()", 3).due("crossed(9, 9)", -9).due("finding()", 3);
        s.due("findings(1)", 1).due("findings(2)", 1).due("findings(3)", 1).due("findings(4)", 1).due("findings(5)", 2);
        s.refused("findings(0)", -1).refused("findings(6)", -1).refused("findings(-1)", -1).refused("findings(2147483647)", -1);
    }

    private static long sum(long... told) {
        long h = 17;
        for (long v : told) {
            h = 31 * h + v;
        }
        return h;
    }

    private static void digestOfNew() {
        long nothing = sum(0, 0, 0, 0, 0, 0, 0, 0, 0, 0, 0, 0, 0, 0, 0, 0, -1, -1, -1, -1, -1, -1, -1, -1, -1, -1, -1, -1, -1);
        Script.fresh("promise 43, new").due("digest()", nothing).due("rest()", -4).due("at(0, 0)", -3).due("digest()", nothing).due("asked()", 0);
    }

    private static void digest() {
        Script s = Script.fresh("promise 43").write(3, "w269477k891s102").due("parish(3)", 2).due("fly(0)", 6).due("tie(1)", 3).due("keep(1)", 2).due("rest()", 2);
        s.rowOf(0, 7, -8).rowOf(5).due("text(1, 2)", 2).due("put(1, 1, 255)", 1032).told("at(0, 0)", 7);
        long want = sum(2, 2, 3, 9, 1, 0, 6, 77, 2, 2, 1, 1, 2, 6, 9, 4, 0, 8, 9, 1, 34, 34, 6, 5, 1, 0, 3, 15, 0, -9, -1, 2, -1,
            2, 7, -8, -1, -1, -1, -1, 0, -1, 2, 32, -1, -1, 15, 119, 50, 54, 57, 52, 55, 55, 107, 56, 57, 49, 115, 49, 48, 50);
        s.due("digest()", want).due("asked()", 7).due("digest()", want).due("keep(2)", 3);
        Script.check("promise 43: one more kept PARISH is another digest: this", s.digest() != want);
    }

    private static void constants() {
        long[] got = {KiteTaxes.BAD, KiteTaxes.FULL, KiteTaxes.FINDING, KiteTaxes.STATE, KiteTaxes.SPENT, KiteTaxes.NONE};
        long[] due = {-1, -2, -3, -4, -6, -9};
        for (int i = 0; i < due.length; i++) {
            Script.check("constant " + i + " " + due[i], got[i] == due[i]);
        }
    }
}
