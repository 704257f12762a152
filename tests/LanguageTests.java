import com.sun.source.tree.ClassTree;
import com.sun.source.tree.CompilationUnitTree;
import com.sun.source.tree.IdentifierTree;
import com.sun.source.tree.MemberSelectTree;
import com.sun.source.tree.MethodTree;
import com.sun.source.tree.NewClassTree;
import com.sun.source.tree.Tree;
import com.sun.source.tree.VariableTree;
import com.sun.source.util.JavacTask;
import com.sun.source.util.SourcePositions;
import com.sun.source.util.TreeScanner;
import com.sun.source.util.Trees;
import java.nio.file.Path;
import java.util.EnumSet;
import java.util.HashSet;
import java.util.List;
import java.util.Set;
import java.util.stream.Collectors;
import javax.lang.model.element.Modifier;
import javax.tools.JavaCompiler;
import javax.tools.StandardJavaFileManager;
import javax.tools.ToolProvider;

/** The rules of ../shared/LANGUAGE.md that the source shows by itself; the first argument is the class's file. */
public final class LanguageTests extends TreeScanner<Void, Integer> {
    private static final Set<Tree.Kind> RULED_OUT = EnumSet.of(Tree.Kind.THROW, Tree.Kind.TRY, Tree.Kind.CATCH, Tree.Kind.SYNCHRONIZED,
        Tree.Kind.ASSERT, Tree.Kind.LAMBDA_EXPRESSION, Tree.Kind.MEMBER_REFERENCE, Tree.Kind.STRING_LITERAL, Tree.Kind.IMPORT,
        Tree.Kind.BINDING_PATTERN, Tree.Kind.ANNOTATION, Tree.Kind.PACKAGE, Tree.Kind.ENUM, Tree.Kind.YIELD);
    private static final Set<String> LIBRARY = Set.of("Math.max", "Math.min", "Math.floorMod", "Integer.bitCount", "System.arraycopy");
    private static final Set<String> LIBRARY_CLASSES = Set.of("Math", "Integer", "Long", "System", "Arrays", "String", "StringBuilder", "Character",
        "Thread", "Object", "Runtime", "ArrayList", "List", "Byte", "Short", "Double", "Float", "Boolean", "Exception");
    private static final int MOST_LINES = 60, MOST_PARAMETERS = 7, MOST_CLASSES = 12, MOST_FIELDS = 20;

    private final Set<String> publicMethods = new HashSet<>();
    private final Trees trees;
    private final CompilationUnitTree unit;
    private int classes = 0;

    private LanguageTests(Trees trees, CompilationUnitTree unit) {
        this.trees = trees;
        this.unit = unit;
    }

    public static void main(String[] args) throws java.io.IOException {
        JavaCompiler compiler = ToolProvider.getSystemJavaCompiler();
        StandardJavaFileManager files = compiler.getStandardFileManager(null, null, null);
        JavacTask task = (JavacTask) compiler.getTask(null, files, null, null, null, files.getJavaFileObjects(Path.of(args[0])));
        CompilationUnitTree unit = task.parse().iterator().next();
        LanguageTests rules = new LanguageTests(Trees.instance(task), unit);
        Script.check("one class in the file: this", unit.getTypeDecls().size() == 1);
        rules.scan(unit, 0);
        Script.check("rule 11, twelve classes at most: this", rules.classes <= MOST_CLASSES);
        Script.end();
    }

    private void rule(String rule, Tree at, boolean holds) {
        SourcePositions positions = trees.getSourcePositions();
        Script.check("line " + unit.getLineMap().getLineNumber(positions.getStartPosition(unit, at)) + ", " + rule + ": this", holds);
    }

    private long line(long position) {
        return unit.getLineMap().getLineNumber(position);
    }

    @Override
    public Void scan(Tree tree, Integer depth) {
        if (tree != null && RULED_OUT.contains(tree.getKind())) {
            rule("ruled out: " + tree.getKind(), tree, false);
        }
        return super.scan(tree, depth);
    }

    @Override
    public Void visitClass(ClassTree tree, Integer depth) {
        classes++;
        Set<Modifier> flags = tree.getModifiers().getFlags();
        if (depth == 0) {
            rule("rule 1, public and final", tree, flags.equals(Set.of(Modifier.PUBLIC, Modifier.FINAL)));
            publicMethods.addAll(tree.getMembers().stream().filter(MethodTree.class::isInstance).map(MethodTree.class::cast)
                .filter(m -> m.getModifiers().getFlags().contains(Modifier.PUBLIC)).map(m -> m.getName().toString()).collect(Collectors.toSet()));
            rule("rule 1, the face has 42 methods and a constructor", tree, publicMethods.size() == 43);
        } else {
            rule("rule 2, static", tree, depth == 1 && flags.contains(Modifier.STATIC) && !flags.contains(Modifier.PUBLIC));
        }
        int fields = 0;
        for (Tree member : tree.getMembers()) {
            rule("rule 5, no initialiser block", member, member.getKind() != Tree.Kind.BLOCK);
            if (member instanceof VariableTree field) {
                fields += isStatic(field) ? 0 : 1;
                ruleOfField(field, depth);
            }
        }
        rule("rule 11, twenty fields at most", tree, fields <= MOST_FIELDS);
        return super.visitClass(tree, depth + 1);
    }

    private static boolean isStatic(VariableTree field) {
        return field.getModifiers().getFlags().contains(Modifier.STATIC);
    }

    private void ruleOfField(VariableTree field, int depth) {
        Set<Modifier> flags = field.getModifiers().getFlags();
        rule("rule 5, static fields are final", field, !isStatic(field) || flags.contains(Modifier.FINAL));
        if (depth == 0) {
            boolean isOfFace = List.of("BAD", "FULL", "FINDING", "STATE", "SPENT", "NONE").contains(field.getName().toString());
            rule("rule 1, members are private but for the face", field, flags.contains(isOfFace ? Modifier.PUBLIC : Modifier.PRIVATE));
        }
    }

    @Override
    public Void visitMethod(MethodTree tree, Integer depth) {
        SourcePositions positions = trees.getSourcePositions();
        long lines = line(positions.getEndPosition(unit, tree)) - line(positions.getStartPosition(unit, tree)) + 1;
        rule("rule 11, short", tree, lines <= MOST_LINES);
        rule("rule 11, seven parameters at most", tree, tree.getParameters().size() <= MOST_PARAMETERS);
        boolean isOfFace = depth == 1 && tree.getModifiers().getFlags().contains(Modifier.PUBLIC);
        String name = tree.getName().toString();
        rule("rule 1, no name of a public one", tree, isOfFace || name.equals("<init>") || !publicMethods.contains(name));
        rule("rule 1, private", tree, depth != 1 || isOfFace || tree.getModifiers().getFlags().contains(Modifier.PRIVATE));
        rule("rule 6, no equals, hashCode, toString", tree, !Set.of("equals", "hashCode", "toString").contains(name));
        return super.visitMethod(tree, depth);
    }

    @Override
    public Void visitNewClass(NewClassTree tree, Integer depth) {
        rule("rule 2, no anonymous class", tree, tree.getClassBody() == null);
        return super.visitNewClass(tree, depth);
    }

    @Override
    public Void visitMemberSelect(MemberSelectTree tree, Integer depth) {
        if (tree.getExpression() instanceof IdentifierTree of && LIBRARY_CLASSES.contains(of.getName().toString())) {
            rule("rule 4, " + tree, tree, LIBRARY.contains(tree.toString()));
        }
        return super.visitMemberSelect(tree, depth);
    }
}
