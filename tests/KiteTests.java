/** Promises 12 to 15: what a kite is, lifts, pays, tells of. */
public final class KiteTests {
    private static final int NONE = -9, UNLIKE = 3;

    public static void main(String[] args) {
        liftsOfAllKinds();
        lifted();
        kite();
        markHandkerchief();
        markChilds();
        markBox();
        markJudges();
        markStringless();
        markRefused();
        liftsPaysRefused();
        Script.end();
    }

    private static void lifts(String kite, int... byWind) {
        Script s = Script.parish("promise 14: " + kite, "w000000" + kite);
        for (int wind = 0; wind < 10; wind++) {
            s.due("lifts(0, " + wind + ")", byWind[wind]);
        }
    }

    private static void liftsOfAllKinds() {
        lifts("k700", 0, 3, 7, 10, 14, 17, 21, 24, 28, 31);
        lifts("k702", 0, 0, 3, 6, 10, 13, 17, 20, 24, 27);
        lifts("k103", 0, 0, 0, 0, 0, 0, 0, 0, 0, 0);
        lifts("h700", 0, 1, 2, 3, 4, 5, 7, 8, 9, 10);
        lifts("h901", 0, 0, 2, 3, 5, 6, 8, 9, 11, 12);
        lifts("c700", 0, 1, 3, 5, 7, 8, 10, 0, 0, 0);
        lifts("c503", 0, 0, 0, 0, 2, 3, 4, 0, 0, 0);
        lifts("b703", 0, 3, 7, 12, 16, 19, 23, 26, 30, 33);
        lifts("b103", 0, 0, 1, 3, 4, 4, 5, 5, 6, 6);
        lifts("j700", 1, 1, 2, 3, 4, 5, 7, 8, 9, 10);
        lifts("j103", 1, 1, 1, 1, 1, 1, 1, 1, 1, 1);
        lifts("s703", 0, 4, 9, 15, 20, 24, 29, 33, 38, 42);
        lifts("s100", 0, 1, 3, 6, 8, 9, 11, 12, 14, 15);
    }

    private static void lifted() {
        Script s = Script.parish("promise 15", "w000000k820j100k103");
        s.due("pays(0, 2)", 8).due("pays(0, 1)", 4).due("pays(0, 0)", 0).due("pays(0, 3)", NONE).due("pays(0, 9)", NONE);
        s.due("pays(1, 0)", NONE).due("pays(1, 9)", NONE).due("pays(2, 9)", 0);
        Script.parish("promise 15, edge", "w000000k490 k491 b490").due("pays(0, 9)", 18).due("pays(1, 9)", 16).due("pays(2, 9)", 20);
        Script.parish("promise 15, 36 and more", "w000000k890 k990").due("pays(0, 9)", 36).due("pays(1, 8)", 36).due("pays(1, 9)", NONE);
    }

    private static void kite() {
        Script s = Script.parish("promise 12", "w260430k861j101s913");
        s.told("kite(0, 0)", 0).told("kite(0, 1)", 8).told("kite(0, 2)", 6).told("kite(0, 3)", 1).told("kite(0, 4)", 6).told("kite(0, 5)", 6).told("kite(0, 6)", NONE);
        s.told("kite(1, 0)", 4).told("kite(1, 4)", 1).told("kite(1, 5)", 0).told("kite(1, 6)", NONE);
        s.told("kite(2, 0)", 5).told("kite(2, 2)", 1).told("kite(2, 3)", 3).told("kite(2, 4)", 11).told("kite(2, 5)", 0);
        s.due("fly(1)", 0).told("kite(1, 6)", 0).told("kite(0, 4)", 22).told("kite(0, 5)", 22);
        s.due("fly(0)", 22).told("kite(0, 6)", 22).told("kite(0, 4)", 0).told("kite(0, 5)", 0);
        s.due("tie(0)", 2).due("rest()", 3).told("kite(0, 4)", 12).told("kite(0, 6)", 22).told("kite(0, 3)", 2);
        s.refused("kite(3, 0)", -1).refused("kite(-1, 0)", -1).refused("kite(0, 7)", -1).refused("kite(0, -1)", -1);
        Script.fresh("promise 12, no KITE").refused("kite(0, 0)", -1);
    }

    private static void markHandkerchief() {
        Script s = Script.parish("promise 13, 1", "w620900h902j101");
        s.due("mark(0, 1)", 100 + 23 - 7).due("mark(1, 1)", 100 + 1 - 1).due("rest()", 1);
        s.due("mark(0, 1)", 100 + 5 - 1).due("mark(1, 1)", 99).due("rest()", 2).due("mark(0, 1)", 100).due("mark(1, 1)", 99);
        s.due("rest()", 3).due("mark(0, 1)", 100 + 36 - 12).due("tie(0)", 3).due("mark(0, 1)", 100 + 34 - 11);
    }

    private static void markChilds() {
        Script s = Script.parish("promise 13, 2", "w000000c100c103c202c303");
        s.due("mark(0, 2)", 6).due("mark(1, 2)", NONE).due("mark(2, 2)", 6).due("mark(3, 2)", 6).due("asked()", 0);
        s.due("cut(1)", 2).due("mark(1, 2)", NONE).due("cut(1)", 1).due("mark(1, 2)", NONE).due("cut(1)", 0).due("mark(1, 2)", 6);
        Script.parish("promise 13, 2, least", "w000000c101c111c203").due("mark(0, 2)", NONE).due("mark(2, 2)", NONE);
    }

    private static void markBox() {
        Script s = Script.parish("promise 13, 3", "w390100b403s402");
        s.due("mark(0, 3)", 8 - 0).due("mark(1, 3)", 11 - 2).due("rest()", 1).due("mark(0, 3)", 20 - 12).due("mark(1, 3)", 29 - 14);
        s.due("rest()", 2).due("mark(0, 3)", 0).due("mark(1, 3)", 0).due("rest()", 3).due("mark(0, 3)", 2).due("mark(1, 3)", 3).due("rest()", 4);
        s.due("cut(0)", 2).due("mark(0, 3)", 8 - 2);
    }

    private static void markJudges() {
        Script s = Script.parish("promise 13, 4", "w000000j100j900j903");
        s.due("mark(0, 4)", 6).due("mark(1, 4)", 1).due("mark(2, 4)", 2).due("cut(2)", 2).due("mark(2, 4)", 2).due("cut(2)", 1).due("mark(2, 4)", 2);
        s.due("tie(0)", 1).due("mark(0, 4)", 10);
    }

    private static void markStringless() {
        Script s = Script.parish("promise 13, 5", "w000000s900s990s190s340s470");
        s.due("mark(0, 5)", 1).due("mark(1, 5)", 7).due("mark(2, 5)", NONE).due("mark(3, 5)", 6).due("mark(4, 5)", 9);
    }

    private static void markRefused() {
        int[] own = {0, 1, 2, 3, 4, 5};
        int[] above = {0, 0, 0, 0, 1, 3};
        for (int i : own) {
            Script s = Script.parish("promise 13, refused, KIND " + i, "w000000k100h100c100b100j100s100");
            for (int kind = 1; kind <= 5; kind++) {
                if (kind != i && kind != above[i]) {
                    s.refused("mark(" + i + ", " + kind + ")", -3).finds("mark(" + i + ", " + kind + ")", UNLIKE);
                }
            }
            s.refused("mark(" + i + ", 0)", -1).refused("mark(" + i + ", 6)", -1).refused("mark(" + i + ", -1)", -1);
        }
        Script s = Script.parish("promise 13, refused, no such KITE", "w000000k100h100c100b100j100s100");
        s.refused("mark(6, 1)", -1).refused("mark(-1, 1)", -1);
    }

    private static void liftsPaysRefused() {
        Script s = Script.parish("promises 14, 15, refused", "w000000k100h100");
        for (String call : new String[] {"lifts", "pays"}) {
            s.refused(call + "(2, 0)", -1).refused(call + "(-1, 0)", -1).refused(call + "(0, 10)", -1).refused(call + "(0, -1)", -1);
            Script.fresh("promises 14, 15, no KITE").refused(call + "(0, 0)", -1);
        }
    }
}
