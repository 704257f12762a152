/** Promises 33 to 36: by turns, chances, means, lots. */
public final class ChanceTests {
    public static void main(String[] args) {
        duel();
        duelRefused();
        odds();
        oddsWithJudges();
        mid();
        chancesRefused();
        lots();
        manyLots();
        lotsOfOneKite();
        lotsRefused();
        Script.end();
    }

    private static void duel() {
        // in WINDS 2, 6: 4 and 12, 8 and 24
        Script s = Script.parish("promise 33", "w262600k490k890");
        s.due("duel(0)", 0).due("duel(1)", 8).due("duel(2)", 8).due("duel(3)", 12);
        // the flyer has the lesser one flown in the lesser WIND, ahead of the clerk
        Script t = Script.parish("promise 33, the flyer spoils", "w029000k490");
        t.due("duel(1)", 0).due("duel(2)", 0).due("duel(3)", 4);
        // who is LIFTED PAYS nothing: the flyer has that one flown
        Script u = Script.parish("promise 33, LIFTED", "w069000k820k490");
        u.due("duel(2)", 0).due("fly(1)", 0).due("duel(1)", 0).due("duel(2)", 0).due("count(2)", 1);
        // a LIFTED one that is flown for nothing can't be flown later
        Script.parish("promise 33, LIFTED, spoilt", "w092000k820").due("duel(3)", 0);
        Script.parish("promise 33, six turns", "w537100k490k890k990b390k590j690").due("duel(6)", 61).due("duel(5)", 61).due("duel(4)", 50).due("duel(3)", 50).due("duel(2)", 22).due("duel(1)", 22);
        Script.parish("promise 33, flown, paid", "w222200k490k890k990").due("fly(2)", 9).due("duel(1)", 8).due("duel(3)", 12).due("duel(6)", 12);
    }

    private static void duelRefused() {
        Script s = Script.parish("promise 33, refused", "w222200k490").refused("duel(7)", -1).refused("duel(-1)", -1);
        Script.fresh("promise 33, no KITE").refused("duel(0)", -4).refused("duel(7)", -1).refused("duel(-1)", -1);
        s.due("asked()", 0);
    }

    private static void odds() {
        // 4 and 8, if it is not calm
        Script s = Script.parish("promise 34", "w222208k490k890");
        s.chance("odds(0)", 1, 1).chance("odds(3)", 3, 4).chance("odds(12)", 0, 1).chance("odds(1)", 11, 12).chance("odds(6)", 1, 2);
        s.due("fly(1)", 8).chance("odds(12)", 1, 1).chance("odds(5)", 1, 1).due("fly(0)", 4).chance("odds(5)", 1, 1).due("count(2)", 2);
        Script.parish("promise 34, both", "w222212k490k890").chance("odds(3)", 9, 16).chance("odds(2)", 25, 36);
        Script.parish("promise 34, any", "w222204k490k890").chance("odds(3)", 15, 16);
        Script.parish("promise 34, never", "w222213k490k890").chance("odds(3)", 0, 1).due("fly(0)", 4).due("fly(1)", 8).chance("odds(0)", 0, 1);
        Script.parish("promise 34, nothing wanted", "w222200k490").chance("odds(7)", 1, 1);
        Script.parish("promise 34, six", "w222224k490k490k490k490k490k490").chance("odds(11)", 1, 2985984).chance("odds(4)", 64, 729);
        Script.parish("promise 34, by hours", "w026018k490k690").due("rest()", 1).chance("odds(4)", 2, 3);
        Script.parish("promise 34, LIFTED", "w222204k800k490").chance("odds(6)", 1, 2);
    }

    private static void oddsWithJudges() {
        // a JUDGE'S one PAYS 1 on a calm HOUR, too
        Script s = Script.parish("promise 34, JUDGE'S", "w222201j990").chance("odds(12)", 1, 1).chance("mid(12)", 1, 1).chance("mid(6)", 2, 1);
        s.due("fly(0)", 3).chance("mid(6)", 3, 1);
    }

    private static void mid() {
        Script s = Script.parish("promise 35", "w222208k490k890");
        s.chance("mid(0)", 12, 1).chance("mid(12)", 0, 1).chance("mid(6)", 6, 1).chance("mid(5)", 7, 1).chance("mid(1)", 11, 1);
        s.due("fly(1)", 8).chance("mid(12)", 8, 1).chance("mid(3)", 11, 1).chance("mid(1)", 35, 3).chance("mid(2)", 34, 3).due("fly(0)", 4).chance("mid(2)", 12, 1);
        Script.parish("promise 35, twelfths", "w222200k190").chance("mid(1)", 11, 12).chance("mid(2)", 5, 6).chance("mid(3)", 3, 4);
        Script.parish("promise 35, LIFTED", "w222200k800k490").chance("mid(6)", 2, 1);
    }

    private static void chancesRefused() {
        Script s = Script.parish("promises 34, 35, refused", "w222204k490k490").chance("odds(3)", 15, 16);
        for (String call : new String[] {"odds", "mid"}) {
            s.refused(call + "(13)", -1).refused(call + "(-1)", -1);
            Script.fresh("promises 34, 35, no KITE").refused(call + "(0)", -4).refused(call + "(13)", -1).refused(call + "(-1)", -1);
        }
        s.due("upper()", 15).due("lower()", 16);
    }

    private static void lots() {
        // by seed 1: 48271 (by 8: 6033), 182605794 (22825724), 1291394886 (161424360), 1914720637, 2078669041, 407355683
        Script s = Script.parish("promise 36", "w222200k490k890k291");
        s.due("lots(1, 1)", 4).due("count(4)", 1).due("count(2)", 1);
        // the second goes to number 2, the third to number 0 (again, an even number), the fourth to 239340079 % 3
        s.due("undo(0)", 1).due("lots(3, 1)", 4).due("count(4)", 5).due("count(2)", 3).due("count(1)", 2).told("kite(0, 3)", 1);
        s.due("undo(0)", 3).due("lots(6, 1)", 12).due("count(4)", 7).due("count(2)", 6);
    }

    private static void manyLots() {
        Script s = Script.parish("promise 36, many", "w269430k861h982c650b492j970s513").due("lots(20, 4711)", 32).due("count(1)", 13).due("count(4)", 63);
        s.told("kite(0, 3)", 3).told("kite(1, 3)", 2).told("kite(2, 3)", 3).told("kite(3, 3)", 3).told("kite(4, 3)", 1).due("undo(0)", 20);
        s.due("lots(12, 99)", 57).due("count(1)", 10).due("undo(0)", 12).due("lots(20, 12345)", 13).due("count(4)", 61).due("count(1)", 15);
        s.told("kite(0, 3)", 2).told("kite(1, 3)", 2).told("kite(2, 3)", 1).told("kite(3, 3)", 3).told("kite(4, 3)", 2);
    }

    private static void lotsOfOneKite() {
        Script s = Script.parish("promise 36, one KITE", "w222200k490");
        s.due("lots(1, 1)", 4).due("lots(2, 1)", 4).told("kite(0, 3)", 1).due("count(1)", 2).due("count(2)", 3);
        s.due("undo(0)", 3).due("lots(20, 1)", 4).due("count(2)", 20).told("kite(0, 3)", 3).due("count(1)", 17).due("lots(20, 2147483646)", 4).due("count(1)", 37);
        s.refused("lots(1, 1)", -2).due("undo(39)", 1).due("lots(1, 2)", 4).due("count(1)", 37);
    }

    private static void lotsRefused() {
        Script s = Script.parish("promise 36, refused", "w222200k490");
        s.refused("lots(0, 1)", -1).refused("lots(21, 1)", -1).refused("lots(-1, 1)", -1).refused("lots(1, 0)", -1).refused("lots(1, -1)", -1);
        s.refused("lots(1, 2147483647)", -1).refused("lots(1, -2147483648)", -1).due("lots(20, 5)", 4).due("rest()", s.read("count(1)") + 1);
        s.refused("lots(20, 5)", -2).due("lots(19, 5)", 4).refused("lots(1, 5)", -2).refused("lots(21, 5)", -1).refused("lots(1, 0)", -1);
        Script.fresh("promise 36, no KITE").refused("lots(1, 1)", -4).refused("lots(0, 1)", -1).refused("lots(1, 0)", -1);
    }
}
