/** The small language (ahead of the promises) and promises 10, 11: a test for each sentence that names a bound. */
public final class BoundsOfTextsTests {
    private static final int BAD = -1, FINDING = -3, STATE = -4, NONE = -9, NOTHING = 1;
    private static final String SIX = "w999999k100h200c300b400j500s600";

    public static void main(String[] args) {
        blanks();
        otherSignsAreNoBlanks();
        noBlankWithinItems();
        firstItem();
        figuresOfHours();
        figuresOfTheSchool();
        lettersOfKites();
        figuresOfKites();
        seventhKite();
        endTooEarly();
        noKite();
        blanksAlone();
        bytesAsTheyAreCut();
        faultRefused();
        parishAnew();
        parishKeepsTheRest();
        parishRefused();
        Script.end();
    }

    private static void faulty(String what, String text, int place) {
        Script.fresh(what + ": " + text).write(1, text).aside("fault(1)", place).refused("parish(1)", STATE);
    }

    private static void well(String what, String text, int kites) {
        Script.fresh(what + ": " + text).write(1, text).aside("fault(1)", NONE).due("parish(1)", kites).due("count(0)", kites);
    }

    /** blanks (32) ahead, between, behind as many as wanted */
    private static void blanks() {
        well("no blanks", "w123456k913h820", 2);
        well("a blank ahead", " w123456k913h820", 2);
        well("a blank behind", "w123456k913h820 ", 2);
        well("a blank behind the first item", "w123456 k913h820", 2);
        well("a blank between KITES", "w123456k913 h820", 2);
        well("many blanks ahead", " ".repeat(49) + "w123456k913", 1);
        well("many blanks between", "w123456" + " ".repeat(49) + "k913", 1);
        well("many blanks between KITES", "w123456k913" + " ".repeat(45) + "h820", 2);
        well("many blanks behind", "w123456k913" + " ".repeat(49), 1);
        well("blanks all over", "   w123456   k913   h820   ", 2);
    }

    private static void otherSignsAreNoBlanks() {
        for (char sign : new char[] {0, 9, 10, 13, 31, 33, 95, 160, 255}) {
            faulty("no blank ahead", sign + "w123456k913", 0);
            faulty("no blank between", "w123456" + sign + "k913", 7);
            faulty("no blank behind", "w123456k913" + sign, 11);
        }
    }

    private static void noBlankWithinItems() {
        String text = "w123456k913";
        for (int place = 1; place < text.length(); place++) {
            if (place != 7) {
                faulty("none within items", text.substring(0, place) + " " + text.substring(place), place);
            }
        }
    }

    /** The first item is w (119) */
    private static void firstItem() {
        faulty("the first item is w", "k913w123456", 0);
        faulty("the first item is w", "v123456k913", 0);
        faulty("the first item is w", "x123456k913", 0);
        faulty("the first item is w", "W123456k913", 0);
        faulty("the first item is w", "1234567k913", 0);
        faulty("the first item is w, behind blanks", "   k913", 3);
        faulty("w is no second item", "w123456w123456", 7);
        faulty("w is no item behind a KITE", "w123456k913 w123456", 12);
    }

    /** the WINDS of HOURS 0 .. 3 (0 .. 9, four figures) */
    private static void figuresOfHours() {
        for (int place = 1; place <= 4; place++) {
            for (char sign : new char[] {'/', ':', 'a', 'k', '-'}) {
                faulty("a WIND is a figure", "w123456k913".substring(0, place) + sign + "w123456k913".substring(place + 1), place);
            }
        }
        well("WINDS of 0", "w000056k913", 1);
        well("WINDS of 9", "w999956k913", 1);
        Script s = Script.parish("WINDS of HOURS 0 .. 3, HOUR h has what h by 4 leaves over", "w098756k913");
        int[] winds = {0, 9, 8, 7};
        for (int hour = 0; hour <= 40; hour++) {
            s.due("count(3)", winds[hour % 4]).due("count(1)", hour);
            if (hour < 40) {
                s.due("rest()", hour + 1);
            }
        }
    }

    /** what the SCHOOL wants (two figures 00 .. 99) */
    private static void figuresOfTheSchool() {
        for (int place = 5; place <= 6; place++) {
            for (char sign : new char[] {'/', ':', 'a', 'k', '-'}) {
                faulty("what the SCHOOL wants is of figures", "w123456k913".substring(0, place) + sign + "w123456k913".substring(place + 1), place);
            }
        }
        Script.parish("the SCHOOL wants 00", "w123400k913").due("count(7)", 0);
        Script.parish("the SCHOOL wants 01", "w123401k913").due("count(7)", 1);
        Script.parish("the SCHOOL wants 10", "w123410k913").due("count(7)", 10);
        Script.parish("the SCHOOL wants 99", "w123499k913").due("count(7)", 99);
        faulty("a third figure", "w1234567k913", 7);
    }

    /** a letter */
    private static void lettersOfKites() {
        String letters = "khcbjs";
        for (char sign = 0; sign < 256; sign++) {
            String text = "w123456" + sign + "913";
            if (letters.indexOf(sign) >= 0) {
                well("a letter", text, 1);
                Script.parish("a letter's KIND: " + text, text).told("kite(0, 0)", letters.indexOf(sign));
            } else {
                faulty("a letter that is none such", text, sign == ' ' ? 8 : 7);
            }
        }
        faulty("the second KITE's letter", "w123456k913K913", 11);
        faulty("the second KITE's letter, behind blanks", "w123456k913   1913", 14);
    }

    /** how WIDE (1 .. 9), how HEAVY (0 .. 9), the TAIL (0 .. 3), one figure each */
    private static void figuresOfKites() {
        faulty("WIDE 0", "w123456k000", 8);
        faulty("WIDE below the figures", "w123456k/00", 8);
        faulty("WIDE above the figures", "w123456k:00", 8);
        Script.parish("WIDE 1", "w123456k100").told("kite(0, 1)", 1);
        Script.parish("WIDE 9", "w123456k900").told("kite(0, 1)", 9);
        faulty("HEAVY below the figures", "w123456k1/0", 9);
        faulty("HEAVY above the figures", "w123456k1:0", 9);
        Script.parish("HEAVY 0", "w123456k100").told("kite(0, 2)", 0);
        Script.parish("HEAVY 9", "w123456k190").told("kite(0, 2)", 9);
        faulty("TAIL below the figures", "w123456k10/", 10);
        faulty("TAIL 4", "w123456k104", 10);
        faulty("TAIL 9", "w123456k109", 10);
        Script.parish("TAIL 0", "w123456k100").told("kite(0, 3)", 0);
        Script.parish("TAIL 3", "w123456k103").told("kite(0, 3)", 3);
        faulty("one figure each", "w123456k1000", 11);
        faulty("the second KITE's WIDE", "w123456k100k0", 12);
        faulty("the second KITE's TAIL", "w123456k100 k194", 15);
    }

    /** KITES (1 to 6); a seventh KITE: its place */
    private static void seventhKite() {
        well("one KITE", "w999999k100", 1);
        well("six KITES", SIX, 6);
        well("six KITES, blanks behind", SIX + " ".repeat(29), 6);
        faulty("a seventh KITE", SIX + "k100", 31);
        faulty("a seventh KITE behind blanks", SIX + "   k100", 34);
        faulty("a seventh KITE, cut short", SIX + "k", 31);
        faulty("a seventh KITE with figures that are none such", SIX + "k004", 31);
        faulty("something else behind six", SIX + "x", 31);
        Script s = Script.parish("KITES 0, 1, .. as they come", SIX);
        for (int i = 0; i < 6; i++) {
            s.told("kite(" + i + ", 0)", i).told("kite(" + i + ", 1)", i + 1);
        }
        s.refused("kite(6, 0)", BAD);
    }

    /** the TEXT's size, if its end comes too early */
    private static void endTooEarly() {
        String text = "  w123456 k913h820";
        for (int n = 0; n <= text.length(); n++) {
            if (n == 14 || n == 18) {
                well("the end is not too early", text.substring(0, n), n == 14 ? 1 : 2);
            } else {
                faulty("the end comes too early", text.substring(0, n), n);
            }
        }
        faulty("the end of 60 comes too early", " ".repeat(50) + "w123456k91", 60);
    }

    /** or there is no KITE */
    private static void noKite() {
        faulty("no KITE", "w123456", 7);
        faulty("no KITE, a blank behind", "w123456 ", 8);
        faulty("no KITE, blanks up to 60", "w123456" + " ".repeat(53), 60);
    }

    /** or there are blanks alone */
    private static void blanksAlone() {
        faulty("no signs", "", 0);
        faulty("a blank", " ", 1);
        faulty("60 blanks", " ".repeat(60), 60);
    }

    private static void bytesAsTheyAreCut() {
        Script.fresh("letters cut to a byte").write(0, "w123456k913").due("put(0, 0, 375)", 1119).due("put(0, 7, -149)", 1107).aside("fault(0)", NONE).due("parish(0)", 1);
        Script.fresh("a byte below 0 is no letter").write(0, "w123456k913").due("put(0, 0, -119)", 1119).aside("fault(0)", 0).due("put(0, 0, 119)", 881).aside("fault(0)", NONE);
        Script.fresh("a byte below 0 is no figure").write(0, "w123456k913").due("put(0, 10, -48)", 1051).aside("fault(0)", 10);
        Script.fresh("a byte below 0 is no blank").write(0, "w123456k913 ").due("put(0, 11, -32)", 1032).aside("fault(0)", 11);
    }

    private static void faultRefused() {
        Script.fresh("promise 10: BAD").refused("fault(4)", BAD).refused("fault(-1)", BAD).refused("fault(2147483647)", BAD).refused("fault(-2147483648)", BAD);
        Script.fresh("promise 10: NOTHING").refused("fault(0)", FINDING).finds("fault(3)", NOTHING);
        Script.parish("promise 10: aside", "w123456k913").due("fly(0)", 0).write(0, "w999999s100s100").aside("fault(0)", NONE).due("count(0)", 1).write(0, "w99").aside("fault(0)", 3).told("kite(0, 6)", 0);
    }

    /** anew: HOUR 0, nothing flown, PAID, no DEEDS; kept PARISHES go */
    private static void parishAnew() {
        gone("HOUR 0").due("count(1)", 0).due("count(3)", 2).due("rest()", 1);
        gone("nothing flown").due("count(4)", 0).due("count(5)", 0).told("kite(0, 6)", NONE).told("kite(1, 6)", NONE).due("fly(0)", 9).due("fly(1)", 0);
        gone("nothing PAID").due("count(6)", 0);
        gone("no DEEDS").due("count(2)", 0).refused("undo(1)", BAD).due("undo(0)", 0);
        gone("TAILS as they stand").told("kite(0, 3)", 0).told("kite(1, 3)", 3);
        gone("kept PARISHES go").due("count(10)", 0).finds("on(0)", NOTHING).finds("on(1)", NOTHING).finds("on(2)", NOTHING);
        gone("anew, of fewer KITES").write(0, "w000000j100").due("parish(0)", 1).refused("kite(1, 0)", BAD).due("count(0)", 1).due("count(11)", 0).due("count(7)", 0);
        gone("anew, of more KITES").write(0, SIX).due("parish(0)", 6).told("kite(5, 0)", 5).told("kite(5, 6)", NONE).due("count(11)", 2).due("count(7)", 99);
    }

    /** A PARISH on which all was done, and which is read anew. */
    private static Script gone(String what) {
        Script s = Script.parish("promise 11: " + what, "w234549k990s103");
        s.due("fly(0)", 9).due("fly(1)", 0).due("tie(0)", 1).due("cut(1)", 2).due("rest()", 3).due("keep(0)", 5).due("keep(1)", 5).due("keep(2)", 5);
        return s.due("count(5)", 2).due("parish(3)", 2);
    }

    private static void parishKeepsTheRest() {
        Script s = Script.parish("promise 11: ROWS, TEXTS, what was told, found stay", "w222204k490k490").rowOf(0, 3, 4).finds("at(0, 2)", 2).told("at(0, 1)", 4).chance("odds(3)", 15, 16);
        s.due("parish(3)", 2).due("asked()", 4).due("upper()", 15).due("lower()", 16).due("finding()", 2).due("findings(2)", 1).due("count(8)", 1).due("count(9)", 1).holds(0, 3, 4);
    }

    private static void parishRefused() {
        Script.fresh("promise 11: BAD").refused("parish(4)", BAD).refused("parish(-1)", BAD).refused("parish(2147483647)", BAD).refused("parish(-2147483648)", BAD);
        Script.fresh("promise 11: NOTHING").refused("parish(0)", FINDING).finds("parish(3)", NOTHING);
        Script.fresh("promise 11: STATE: a FAULT").write(0, "w123456").refused("parish(0)", STATE).due("count(0)", 0).due("count(3)", 0).due("count(7)", 0);
        Script.fresh("promise 11: STATE behind NOTHING").finds("parish(0)", NOTHING).due("text(0, 0)", 0).refused("parish(0)", STATE).due("findings(1)", 1);
        Script s = Script.parish("promise 11: STATE, the PARISH stays, those kept, too", "w123456k990h990");
        s.due("fly(0)", 4).due("tie(1)", 1).due("keep(2)", 2).write(0, "w987654k111k11").refused("parish(0)", STATE).due("count(3)", 2).due("count(7)", 56);
        s.told("kite(0, 6)", 4).told("kite(1, 3)", 1).due("count(10)", 1).due("undo(0)", 2).due("on(2)", 2).due("count(6)", 4);
    }
}
