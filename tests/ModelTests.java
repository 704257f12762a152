import java.lang.reflect.InvocationTargetException;
import java.util.Random;

/** All promises: runs of calls by lots (of a fixed seed) on the class and on the Model, held side by side. */
public final class ModelTests {
    private static final int RUNS = 400, CALLS = 512;
    private static final String[] FACE = {
        "row rn", "lay riv", "lay riv", "at ri", "tear r", "copy ririn", "mean r", "text tn", "put tib", "fault t", "parish t",
        "kite kw", "mark kq", "mark kq", "lifts kd", "pays kd", "fly k", "fly k", "rest", "tie k", "cut k", "undo u", "keep e", "on e",
        "most fr", "school r", "flown r", "flown r", "when k", "cross kkd", "crossed cd", "merge dr", "tails kr", "kinds kr", "test kr",
        "duel g", "odds p", "mid p", "lots ls", "count o", "findings h",
    };
    private static final int[] EDGES = {Integer.MIN_VALUE, Integer.MIN_VALUE + 1, -1000, -10, -9, -2, -1, 41, 61, 201, Integer.MAX_VALUE - 1, Integer.MAX_VALUE};
    private static final String[] TOLD = {"asked()", "upper()", "lower()", "finding()", "digest()"};

    private final Random lots;
    private final int run;
    private final KiteTaxes x = new KiteTaxes();
    private final Model model = new Model();
    private int calls = 0;
    private boolean isWrong = false;

    private ModelTests(int run) {
        this.run = run;
        this.lots = new Random(1000003L * run + 7);
    }

    public static void main(String[] args) {
        for (int run = 0; run < RUNS; run++) {
            new ModelTests(run).go();
        }
        Script.end();
    }

    private void go() {
        boolean isWild = run % 10 == 0;
        while (calls < CALLS && !isWrong) {
            int way = lots.nextInt(isWild ? 400 : 60);
            if (way == 0 || calls == 20) {
                writeParish();
            } else if (way == 1) {
                writePairs();
            } else if (way == 2) {
                writePlan();
            } else {
                anyCall(isWild);
            }
            same(TOLD[lots.nextInt(TOLD.length)]);
        }
    }

    private void anyCall(boolean isWild) {
        String[] parts = FACE[lots.nextInt(FACE.length)].split(" ");
        StringBuilder call = new StringBuilder(parts[0]).append('(');
        for (int i = 0; parts.length > 1 && i < parts[1].length(); i++) {
            boolean isEdge = lots.nextInt(isWild ? 3 : 25) == 0;
            call.append(i == 0 ? "" : ", ").append(isEdge ? EDGES[lots.nextInt(EDGES.length)] : argument(parts[1].charAt(i)));
        }
        same(call.append(')').toString());
    }

    private int argument(char sort) {
        return switch (sort) {
            case 'r' -> lots.nextInt(6);
            case 't' -> lots.nextInt(4);
            case 'n' -> lots.nextInt(8) == 0 ? lots.nextInt(62) : lots.nextInt(8);
            case 'i' -> lots.nextInt(8) - (lots.nextInt(6) == 0 ? 1 : 0);
            case 'v' -> lots.nextInt(3) == 0 ? lots.nextInt(101) : lots.nextInt(3) == 0 ? -9 : lots.nextInt(11);
            case 'b' -> "wkhcbjs0123456789 \u00ff".charAt(lots.nextInt(19)) + (lots.nextInt(5) == 0 ? 256 : 0);
            case 'k' -> lots.nextInt(12) == 0 ? lots.nextInt(8) : lots.nextInt(Math.max(1, x.count(0)));
            case 'w' -> lots.nextInt(8);
            case 'q' -> lots.nextInt(7);
            case 'd' -> lots.nextInt(30) == 0 ? 10 : lots.nextInt(10);
            case 'u' -> Math.max(0, x.count(2) - lots.nextInt(lots.nextInt(4) == 0 ? 20 : 3) + 1);
            case 'e' -> lots.nextInt(20) == 0 ? 3 : lots.nextInt(3);
            case 'f' -> lots.nextInt(30) == 0 ? 6 : lots.nextInt(6);
            case 'c' -> lots.nextInt(lots.nextBoolean() ? 30 : 202);
            case 'g' -> lots.nextInt(30) == 0 ? 7 : lots.nextInt(7);
            case 'p' -> lots.nextInt(14);
            case 'l' -> lots.nextInt(8) == 0 ? lots.nextInt(22) : lots.nextInt(6);
            case 's' -> lots.nextInt() >>> 1;
            case 'o' -> lots.nextInt(13);
            case 'h' -> lots.nextInt(7);
            default -> throw new IllegalArgumentException(String.valueOf(sort));
        };
    }

    private void writeParish() {
        StringBuilder text = new StringBuilder(" ".repeat(lots.nextInt(2))).append('w');
        for (int i = 0; i < 4; i++) {
            text.append(lots.nextInt(10));
        }
        text.append(lots.nextInt(10) < 8 ? lots.nextInt(6) : lots.nextInt(10)).append(lots.nextInt(10));
        int kites = 1 + lots.nextInt(6);
        for (int i = 0; i < kites; i++) {
            text.append(" ".repeat(lots.nextInt(3))).append("khcbjs".charAt(lots.nextInt(6))).append(1 + lots.nextInt(9));
            text.append(lots.nextInt(3) == 0 ? lots.nextInt(10) : 4 + lots.nextInt(6)).append(lots.nextInt(4));
        }
        if (lots.nextInt(4) == 0) {
            text.setCharAt(lots.nextInt(text.length()), "wk09 4s:/".charAt(lots.nextInt(9)));
        }
        int t = lots.nextInt(4);
        int size = Math.min(60, text.length() + lots.nextInt(3) - (lots.nextInt(6) == 0 ? 2 : 0));
        same("text(" + t + ", " + size + ")");
        for (int i = 0; i < text.length(); i++) {
            if (text.charAt(i) != ' ') {
                same("put(" + t + ", " + i + ", " + (int) text.charAt(i) + ")");
            }
        }
        same("fault(" + t + ")");
        same("parish(" + t + ")");
    }

    /** Pairs that are true for some KITE, mostly. */
    private void writePairs() {
        if (x.count(0) == 0) {
            return;
        }
        int r = lots.nextInt(6);
        int i = lots.nextInt(x.count(0));
        int pairs = lots.nextInt(4);
        same("row(" + r + ", " + 2 * pairs + ")");
        for (int k = 0; k < pairs; k++) {
            int wind = lots.nextInt(10);
            same("lay(" + r + ", " + 2 * k + ", " + wind + ")");
            same("lay(" + r + ", " + (2 * k + 1) + ", " + (x.lifts(i, wind) + (lots.nextInt(8) == 0 ? 1 : 0)) + ")");
        }
        same("tails(" + i + ", " + r + ")");
        same("kinds(" + i + ", " + r + ")");
        same("test(" + i + ", " + r + ")");
    }

    private void writePlan() {
        int r = lots.nextInt(6);
        int hours = lots.nextInt(20) == 0 ? 21 : lots.nextInt(6);
        same("row(" + r + ", " + hours + ")");
        for (int h = 0; h < hours; h++) {
            same("lay(" + r + ", " + h + ", " + (lots.nextInt(2) == 0 ? -9 : lots.nextInt(6)) + ")");
        }
        same("flown(" + r + ")");
    }

    private void same(String call) {
        if (isWrong || calls >= CALLS) {
            return;
        }
        calls++;
        String got;
        try {
            got = String.valueOf(Script.answer(x, call));
        } catch (InvocationTargetException e) {
            got = "with " + e.getCause();
        }
        String want = String.valueOf(ofModel(call));
        isWrong = !got.equals(want);
        Script.check("run " + run + ", call " + calls + ": " + call + " answered " + got + ", due is " + want + ": this", !isWrong);
    }

    private long ofModel(String call) {
        int open = call.indexOf('(');
        String inside = call.substring(open + 1, call.length() - 1);
        String[] parts = inside.isEmpty() ? new String[0] : inside.split(", ");
        int[] arguments = new int[parts.length];
        for (int i = 0; i < parts.length; i++) {
            arguments[i] = Integer.parseInt(parts[i]);
        }
        return model.call(call.substring(0, open), arguments);
    }
}
