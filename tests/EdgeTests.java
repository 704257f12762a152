import java.lang.reflect.InvocationTargetException;
import java.lang.reflect.Method;
import java.util.ArrayList;
import java.util.Arrays;
import java.util.Comparator;
import java.util.List;

/** Every call with every mixture of edge numbers, in some states: it answers as the Model does, and nothing is thrown. */
public final class EdgeTests {
    private static final int[] MANY = {Integer.MIN_VALUE, -10, -9, -1, 0, 1, 2, 3, 4, 5, 6, 7, 10, 12, 13, 20, 21, 40, 41, 60, 61, 200, 201, Integer.MAX_VALUE};
    private static final int[] FEW = {Integer.MIN_VALUE, -1, 0, 1, 3, 6, 10, Integer.MAX_VALUE};
    private static final int[] FEWEST = {Integer.MIN_VALUE, -1, 0, 2, 6, Integer.MAX_VALUE};
    private static final int STATES = 4, CALLS = 500;

    private KiteTaxes x;
    private Model model;
    private int calls;

    public static void main(String[] args) {
        Method[] face = Arrays.stream(KiteTaxes.class.getMethods()).filter(m -> m.getDeclaringClass() == KiteTaxes.class)
            .sorted(Comparator.comparing(Method::getName)).toArray(Method[]::new);
        Script.check("the face has 42 methods: this", face.length == 42);
        for (int state = 0; state < STATES; state++) {
            EdgeTests test = new EdgeTests();
            for (Method method : face) {
                test.all(state, method);
            }
        }
        Script.end();
    }

    private void all(int state, Method method) {
        int many = method.getParameterCount();
        int[] edges = many < 3 ? MANY : many == 3 ? FEW : FEWEST;
        int mixtures = (int) Math.pow(edges.length, many);
        for (int mixture = 0; mixture < mixtures; mixture++) {
            List<Integer> arguments = new ArrayList<>();
            for (int k = 0, left = mixture; k < many; k++, left /= edges.length) {
                arguments.add(edges[left % edges.length]);
            }
            if (mixture == 0 || calls >= CALLS) {
                begin(state);
            }
            same(method.getName(), arguments);
        }
        same("digest", List.of());
    }

    private void begin(int state) {
        x = new KiteTaxes();
        model = new Model();
        calls = 0;
        if (state == 0) {
            return;
        }
        String text = state == 1 ? "w269430 k861 h982 c650 b492 j970 s513" : state == 2 ? "w000000j100" : "w908110s903k193c393k990k290";
        same("text", List.of(0, text.length()));
        for (int i = 0; i < text.length(); i++) {
            same("put", List.of(0, i, (int) text.charAt(i)));
        }
        same("parish", List.of(0));
        same("row", List.of(1, 0));
        same("row", List.of(2, 4));
        same("row", List.of(3, 40));
        same("lay", List.of(2, 0, -9));
        same("keep", List.of(1));
        if (state == 3) {
            same("lots", List.of(20, 77));
            same("lots", List.of(20, 7));
        }
    }

    private void same(String name, List<Integer> arguments) {
        calls++;
        String call = name + arguments.toString().replace('[', '(').replace(']', ')');
        String got;
        try {
            got = String.valueOf(Script.answer(x, call));
        } catch (InvocationTargetException e) {
            got = "with " + e.getCause();
        }
        String want = String.valueOf(model.call(name, arguments.stream().mapToInt(Integer::intValue).toArray()));
        Script.check(call + " answered " + got + ", due is " + want + ": this", got.equals(want));
    }
}
