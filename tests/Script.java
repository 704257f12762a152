import java.lang.reflect.InvocationTargetException;
import java.lang.reflect.Method;
import java.util.Arrays;
import java.util.HashMap;
import java.util.Map;

/** Calls on one object, written as they stand in the document, each held against the answer that is due. */
final class Script {
    private static final Map<String, Method> FACE = new HashMap<>();
    private static int calls = 0;
    private static int wrong = 0;

    static {
        for (Method method : KiteTaxes.class.getMethods()) {
            if (method.getDeclaringClass() == KiteTaxes.class) {
                FACE.put(method.getName(), method);
            }
        }
    }

    // what later calls answer is free
    private static final int CALLS_OF_AN_OBJECT = 512;

    private final KiteTaxes object = new KiteTaxes();
    private final String name;
    private int used = 0;

    private Script(String name) {
        this.name = name;
    }

    static Script fresh(String name) {
        return new Script(name);
    }

    /** An object with a PARISH that is read from TEXT 3 (which then is missing from no count). */
    static Script parish(String name, String text) {
        Script script = new Script(name);
        script.write(3, text);
        int kites = text.replaceAll("[^khcbjs]", "").length();
        return script.due("parish(3)", kites);
    }

    Script write(int t, String text) {
        x().text(t, text.length());
        for (int i = 0; i < text.length(); i++) {
            x().put(t, i, text.charAt(i));
        }
        return this;
    }

    /** A ROW is made with these ints. */
    Script rowOf(int r, int... ints) {
        x().row(r, ints.length);
        for (int i = 0; i < ints.length; i++) {
            x().lay(r, i, ints[i]);
        }
        return this;
    }

    Script due(String call, long want) {
        calls++;
        String got;
        try {
            got = String.valueOf(answer(x(), call));
        } catch (InvocationTargetException e) {
            got = "with " + e.getCause();
        }
        if (!got.equals(String.valueOf(want))) {
            wrong(call + " answered " + got + ", due is " + want);
        }
        return this;
    }

    /** A call that answers 1 and tells by asked(). */
    Script told(String call, long want) {
        return due(call, 1).due("asked()", want);
    }

    /** A call that answers and tells by asked(), too. */
    Script answers(String call, long want, long asked) {
        return due(call, want).due("asked()", asked);
    }

    Script chance(String call, long upper, long lower) {
        return due(call, 1).due("upper()", upper).due("lower()", lower);
    }

    /** A call that is refused with a FINDING. */
    Script finds(String call, int finding) {
        return due(call, -3).due("finding()", finding);
    }

    /** What a ROW holds, its size too. */
    Script holds(int r, int... ints) {
        for (int i = 0; i < ints.length; i++) {
            told("at(" + r + ", " + i + ")", ints[i]);
        }
        return finds("at(" + r + ", " + ints.length + ")", 2);
    }

    /** The call is refused with that answer and changes nothing that is told, but findings by a FINDING. */
    Script refused(String call, long want) {
        long digest = x().digest();
        long[] before = asides();
        due(call, want);
        long[] after = asides();
        if (want == KiteTaxes.FINDING && after[0] >= 1 && after[0] <= 5) {
            before[0] = after[0];
            before[(int) after[0]]++;
        }
        if (x().digest() != digest || !Arrays.equals(before, after)) {
            wrong(call + " was refused and changed something");
        }
        return this;
    }

    /** The call answers and changes nothing of the ROWS, the TEXTS, the PARISH and those kept. */
    Script aside(String call, long want) {
        long digest = x().digest();
        due(call, want);
        if (x().digest() != digest) {
            wrong(call + " is aside and changed something");
        }
        return this;
    }

    /** The call answers and changes nothing of those but ROW r, which is missing then. */
    Script asideBut(int r, String call, long want) {
        x().tear(r);
        long digest = x().digest();
        due(call, want);
        if (x().tear(r) != 1 || x().digest() != digest) {
            wrong(call + " changed more than ROW " + r);
        }
        return this;
    }

    /** What the digest leaves out: the latest FINDING, how many of each, what was told. */
    private long[] asides() {
        return new long[] {x().finding(), x().findings(1), x().findings(2), x().findings(3), x().findings(4), x().findings(5), x().asked(), x().upper(), x().lower()};
    }

    long read(String call) {
        try {
            return answer(x(), call);
        } catch (InvocationTargetException e) {
            throw new IllegalStateException(call, e);
        }
    }

    long digest() {
        return x().digest();
    }

    private KiteTaxes x() {
        used++;
        if (used == CALLS_OF_AN_OBJECT + 1) {
            wrong("the test makes more than 512 calls on one object");
        }
        return object;
    }

    private void wrong(String what) {
        wrong++;
        System.out.println(name + ": " + what);
    }

    static long answer(Object on, String call) throws InvocationTargetException {
        int open = call.indexOf('(');
        String inside = call.substring(open + 1, call.length() - 1).trim();
        String[] parts = inside.isEmpty() ? new String[0] : inside.split(",");
        Object[] arguments = new Object[parts.length];
        for (int i = 0; i < parts.length; i++) {
            arguments[i] = Integer.parseInt(parts[i].trim());
        }
        Method method = FACE.get(call.substring(0, open));
        try {
            return ((Number) method.invoke(on, arguments)).longValue();
        } catch (IllegalAccessException e) {
            throw new IllegalStateException(call, e);
        }
    }

    static void check(String what, boolean holds) {
        calls++;
        if (!holds) {
            wrong++;
            System.out.println(what + " does not hold");
        }
    }

    static void end() {
        System.out.println(calls + " calls, " + wrong + " wrong");
        if (wrong != 0) {
            System.exit(1);
        }
    }
}
