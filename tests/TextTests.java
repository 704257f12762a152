/** Promises 8 to 11: texts, the small language, a parish read. */
public final class TextTests {
    private static final int NOTHING = 1, BEYOND = 2, SIZE = 5;
    private static final int NO_FAULT = -9;

    public static void main(String[] args) {
        text();
        put();
        noFault();
        faults();
        faultRefused();
        parish();
        parishAnew();
        parishRefused();
        Script.end();
    }

    private static void text() {
        Script s = Script.fresh("promise 8");
        s.due("text(0, 60)", 60).due("put(0, 59, 0)", 1032).due("put(0, 59, 1)", 1000).due("count(9)", 1);
        s.due("text(3, 0)", 0).finds("put(3, 0, 1)", BEYOND).due("count(9)", 2);
        s.due("text(0, 60)", 60).due("put(0, 59, 0)", 1032).due("count(9)", 2);
        s.refused("text(0, 61)", -1).refused("text(4, 1)", -1).refused("text(-1, 1)", -1);
        s.refused("text(0, -1)", -3).finds("text(0, -60)", SIZE).refused("text(4, -1)", -1);
    }

    private static void put() {
        Script s = Script.fresh("promise 9");
        s.due("text(1, 2)", 2).due("put(1, 0, 65)", 1032).due("put(1, 0, 200)", 1065).due("put(1, 0, -128)", 944);
        s.due("put(1, 0, 128)", 872).due("put(1, 0, 127)", 872).due("put(1, 0, 256)", 1127).due("put(1, 0, -129)", 1000);
        s.due("put(1, 0, -1)", 1127).due("put(1, 0, 2147483647)", 999).due("put(1, 0, 0)", 999).due("asked()", 0);
        s.refused("put(1, 2, 0)", -3).finds("put(1, -1, 0)", BEYOND).finds("put(1, 2147483647, 0)", BEYOND);
        s.refused("put(0, 0, 0)", -3).finds("put(0, -1, 0)", NOTHING).refused("put(4, 0, 0)", -1).refused("put(-1, 0, 0)", -1);
    }

    private static void noFault() {
        well("w123456k100");
        well("w000000j993");
        well("   w123456   h123  ");
        well("w999999k100h200c300b400j500s600");
        well("w123456 k190 k190 k190 k190 k190 k190 ");
        well(" ".repeat(49) + "w123456s913");
    }

    private static void well(String text) {
        Script.fresh("promise 10: " + text).write(2, text).due("fault(2)", NO_FAULT);
    }

    private static void faults() {
        faulty("", 0);
        faulty("    ", 4);
        faulty("k123", 0);
        faulty("  x", 2);
        faulty("W123456k123", 0);
        faulty("w", 1);
        faulty("w 123456k123", 1);
        faulty("w12345", 6);
        faulty("w12 3456k100", 3);
        faulty("w1234 56k100", 5);
        faulty("w:23456k100", 1);
        faulty("w/23456k100", 1);
        faulty("w1:3456k100", 2);
        faulty("w123:56k100", 4);
        faulty("w1234:6k100", 5);
        faulty("w1234/6k100", 5);
        faulty("w12345:k100", 6);
        faulty("w12345/k100", 6);
        faulty("w123456", 7);
        faulty("w123456    ", 11);
        faulty("w1234567", 7);
        faulty("w123456k", 8);
        faulty("w123456 k 100", 9);
        faulty("w123456k000", 8);
        faulty("w123456k:00", 8);
        faulty("w123456k1", 9);
        faulty("w123456k1x0", 9);
        faulty("w123456k1:0", 9);
        faulty("w123456k1/0", 9);
        faulty("w123456k19/", 10);
        faulty("w123456k19", 10);
        faulty("w123456k194", 10);
        faulty("w123456k1903", 11);
        faulty("w123456 k190 w123456", 13);
        faulty("w123456 k190 K190", 13);
        faulty("w999999k100h200c300b400j500s600k100", 31);
        faulty("w999999k100h200c300b400j500s600 x", 32);
        faulty("w999999k100h200c300b400j500s600   s", 34);
        faulty("w123456" + " ".repeat(53), 60);
        Script s = Script.fresh("promise 10, a byte below nought").write(0, "w123456k100").due("put(0, 7, -21)", 1107);
        s.due("fault(0)", 7).due("put(0, 7, 107)", 979).due("fault(0)", NO_FAULT);
    }

    private static void faulty(String text, int place) {
        Script s = Script.fresh("promise 10: " + text).write(2, text).due("fault(2)", place);
        s.refused("parish(2)", -4).due("count(0)", 0);
    }

    private static void faultRefused() {
        Script s = Script.fresh("promise 10, refused");
        s.refused("fault(4)", -1).refused("fault(-1)", -1).refused("fault(1)", -3).finds("fault(1)", NOTHING);
        Script t = Script.parish("promise 10 changes nothing", "w123456k993h111");
        t.write(0, "w99").refused("fault(0)", 3).write(0, "w999999s111").refused("fault(0)", NO_FAULT).due("count(0)", 2);
    }

    private static void parish() {
        Script s = Script.fresh("promise 11").write(1, "w123456 s910 b821h732").due("parish(1)", 3).due("count(0)", 3).due("count(7)", 56).due("count(3)", 1);
        s.told("kite(0, 0)", 5).told("kite(0, 1)", 9).told("kite(0, 2)", 1).told("kite(0, 3)", 0).told("kite(0, 6)", -9);
        s.told("kite(1, 0)", 3).told("kite(1, 1)", 8).told("kite(1, 2)", 2).told("kite(1, 3)", 1);
        s.told("kite(2, 0)", 1).told("kite(2, 1)", 7).told("kite(2, 2)", 3).told("kite(2, 3)", 2).due("kite(3, 0)", -1);
        s.due("rest()", 1).due("count(3)", 2).due("rest()", 2).due("count(3)", 3).due("rest()", 3).due("count(3)", 4).due("rest()", 4).due("count(3)", 1);
        Script.parish("promise 11: letters", "w000000k100h100c100b100j100s100").told("kite(0, 0)", 0).told("kite(1, 0)", 1)
            .told("kite(2, 0)", 2).told("kite(3, 0)", 3).told("kite(4, 0)", 4).told("kite(5, 0)", 5);
    }

    private static void parishAnew() {
        Script s = Script.parish("promise 11, anew", "w999999k990k900");
        s.due("keep(0)", 0).due("fly(0)", 0).due("fly(1)", 0).due("tie(0)", 1).due("rest()", 3).due("keep(2)", 4).due("count(10)", 2);
        s.write(0, "w111100k990").due("parish(0)", 1).due("count(10)", 0).due("count(1)", 0).due("count(2)", 0).due("count(4)", 0);
        s.due("count(5)", 0).due("count(6)", 0).due("count(7)", 0).told("kite(0, 3)", 0).told("kite(0, 6)", -9);
        s.finds("on(0)", NOTHING).finds("on(2)", NOTHING).due("undo(1)", -1).due("fly(0)", 4).due("count(6)", 4);
        s.due("parish(0)", 1).due("count(6)", 0).due("count(2)", 0).due("count(9)", 2);
    }

    private static void parishRefused() {
        Script s = Script.parish("promise 11, refused", "w123456k990");
        s.due("fly(0)", 4).due("keep(1)", 1).refused("parish(4)", -1).refused("parish(-1)", -1).refused("parish(0)", -3).finds("parish(0)", NOTHING);
        s.write(0, "w99").refused("parish(0)", -4).write(0, "w999999k111h").refused("parish(0)", -4).write(0, "w9999990").refused("parish(0)", -4);
        s.due("findings(1)", 2).due("count(2)", 1).due("on(1)", 1);
    }
}
