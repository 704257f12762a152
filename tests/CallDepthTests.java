import com.sun.source.tree.CompilationUnitTree;
import com.sun.source.tree.MethodInvocationTree;
import com.sun.source.tree.MethodTree;
import com.sun.source.tree.NewArrayTree;
import com.sun.source.tree.NewClassTree;
import com.sun.source.util.JavacTask;
import com.sun.source.util.TreePathScanner;
import com.sun.source.util.Trees;
import java.nio.file.Path;
import java.util.ArrayList;
import java.util.LinkedHashMap;
import java.util.LinkedHashSet;
import java.util.List;
import java.util.Map;
import java.util.Set;
import javax.lang.model.element.Element;
import javax.lang.model.element.ElementKind;
import javax.lang.model.element.Modifier;
import javax.tools.JavaCompiler;
import javax.tools.StandardJavaFileManager;
import javax.tools.ToolProvider;

/**
 * What ../shared/LANGUAGE.md rules by who calls whom: how deep calls go (11), that none comes back to itself (8),
 * what of the library is called (4), that no call makes an object (12). The first argument is the class's file.
 */
public final class CallDepthTests extends TreePathScanner<Void, Void> {
    private static final int DEEPEST = 8;
    private static final Set<String> LIBRARY = Set.of("Math.max", "Math.min", "Math.floorMod", "Integer.bitCount", "System.arraycopy", "Object.<init>");

    private final Trees trees;
    private final CompilationUnitTree unit;
    private final Map<Element, Set<Element>> calls = new LinkedHashMap<>();
    private Element caller;

    private CallDepthTests(Trees trees, CompilationUnitTree unit) {
        this.trees = trees;
        this.unit = unit;
    }

    public static void main(String[] args) throws java.io.IOException {
        JavaCompiler compiler = ToolProvider.getSystemJavaCompiler();
        StandardJavaFileManager files = compiler.getStandardFileManager(null, null, null);
        JavacTask task = (JavacTask) compiler.getTask(null, files, null, List.of("-proc:none"), null, files.getJavaFileObjects(Path.of(args[0])));
        CompilationUnitTree unit = task.parse().iterator().next();
        task.analyze();
        CallDepthTests test = new CallDepthTests(Trees.instance(task), unit);
        test.scan(unit, null);
        int faces = 0;
        for (Element from : test.calls.keySet()) {
            if (from.getModifiers().contains(Modifier.PUBLIC)) {
                faces++;
                test.depthFrom(from);
            }
        }
        Script.check("42 methods and a constructor were looked at: this", faces == 43);
        Script.end();
    }

    private void depthFrom(Element from) {
        List<Element> chain = longest(from, new LinkedHashSet<>());
        Script.check("rule 11, eight deep at most: " + told(chain), chain.size() <= DEEPEST);
    }

    /** The longest chain of calls from this one on, itself the first, the library's the last. */
    private List<Element> longest(Element from, Set<Element> open) {
        List<Element> chain = new ArrayList<>(List.of(from));
        if (!open.add(from)) {
            Script.check("rule 8, no recursion: " + told(new ArrayList<>(open)), false);
            return chain;
        }
        List<Element> best = List.of();
        for (Element next : calls.getOrDefault(from, Set.of())) {
            List<Element> after = longest(next, open);
            best = after.size() > best.size() ? after : best;
        }
        open.remove(from);
        chain.addAll(best);
        return chain;
    }

    private static String told(List<Element> chain) {
        StringBuilder made = new StringBuilder();
        for (Element of : chain) {
            made.append(made.length() == 0 ? "" : " > ").append(of.getEnclosingElement().getSimpleName()).append('.').append(of.getSimpleName());
        }
        return made.append(" (").append(chain.size()).append(')').toString();
    }

    @Override
    public Void visitMethod(MethodTree tree, Void nothing) {
        Element before = caller;
        caller = trees.getElement(getCurrentPath());
        calls.putIfAbsent(caller, new LinkedHashSet<>());
        super.visitMethod(tree, nothing);
        caller = before;
        return null;
    }

    @Override
    public Void visitMethodInvocation(MethodInvocationTree tree, Void nothing) {
        called(trees.getElement(getCurrentPath()));
        return super.visitMethodInvocation(tree, nothing);
    }

    @Override
    public Void visitNewClass(NewClassTree tree, Void nothing) {
        called(trees.getElement(getCurrentPath()));
        ruleOfMaking(tree.toString());
        return super.visitNewClass(tree, nothing);
    }

    @Override
    public Void visitNewArray(NewArrayTree tree, Void nothing) {
        ruleOfMaking(tree.toString());
        return super.visitNewArray(tree, nothing);
    }

    private void called(Element what) {
        if (caller != null) {
            calls.get(caller).add(what);
        }
        boolean isOwn = trees.getPath(what) != null && trees.getPath(what).getCompilationUnit() == unit;
        String name = what.getEnclosingElement().getSimpleName() + "." + what.getSimpleName();
        Script.check("rule 4, " + name, isOwn || LIBRARY.contains(name));
    }

    private void ruleOfMaking(String what) {
        // no caller: a field's own room, made with its object
        boolean isMadeWithObject = caller == null || caller.getKind() == ElementKind.CONSTRUCTOR;
        Script.check("rule 12, " + what + " is made by a constructor: this", isMadeWithObject);
    }
}
