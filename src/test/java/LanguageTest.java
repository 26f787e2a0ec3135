import com.sun.source.tree.ClassTree;
import com.sun.source.tree.CompilationUnitTree;
import com.sun.source.tree.ImportTree;
import com.sun.source.tree.LiteralTree;
import com.sun.source.tree.MethodInvocationTree;
import com.sun.source.tree.MethodTree;
import com.sun.source.tree.NewClassTree;
import com.sun.source.tree.ThrowTree;
import com.sun.source.tree.Tree;
import com.sun.source.tree.VariableTree;
import com.sun.source.util.JavacTask;
import com.sun.source.util.TreePath;
import com.sun.source.util.TreePathScanner;
import com.sun.source.util.Trees;
import java.io.File;
import java.io.IOException;
import java.util.ArrayDeque;
import java.util.Deque;
import java.util.EnumSet;
import java.util.LinkedHashMap;
import java.util.LinkedHashSet;
import java.util.List;
import java.util.Map;
import java.util.Set;
import javax.lang.model.element.Element;
import javax.lang.model.element.Modifier;
import javax.tools.JavaCompiler;
import javax.tools.StandardJavaFileManager;
import javax.tools.ToolProvider;

/**
 * The rules of LANGUAGE.md that can be read off the source: what it may not hold, and how large its
 * parts may be. The class uses less than the rules leave; where it would use more, a list here grows.
 */
public final class LanguageTest extends TreePathScanner<Void, Void> {
    private static final File SOURCE = new File("src/main/java/CutTrees.java");

    private static final Set<Tree.Kind> RULED_OUT = EnumSet.of(
        Tree.Kind.LAMBDA_EXPRESSION, Tree.Kind.MEMBER_REFERENCE, Tree.Kind.TRY, Tree.Kind.CATCH,
        Tree.Kind.ASSERT, Tree.Kind.SYNCHRONIZED, Tree.Kind.INSTANCE_OF, Tree.Kind.DOUBLE_LITERAL,
        Tree.Kind.FLOAT_LITERAL, Tree.Kind.ANNOTATION, Tree.Kind.PACKAGE);

    private static final Set<String> TYPES = Set.of(
        "int", "long", "boolean", "int[]", "Pieces", "Parts", "Cutter", "Tree", "Telling", "Meetings",
        "Reckoner");

    private static final Set<String> LIBRARY = Set.of("Math.abs", "Math.max", "Math.min");

    private static final Set<String> THROWN = Set.of("IndexOutOfBoundsException", "NoSuchElementException");

    private final Trees trees;
    private final CompilationUnitTree unit;
    private final Map<String, Set<String>> calls = new LinkedHashMap<>();
    private final Deque<String> methods = new ArrayDeque<>();
    private final Set<String> withDepth = new LinkedHashSet<>();
    private int classes;

    private LanguageTest(Trees trees, CompilationUnitTree unit) {
        this.trees = trees;
        this.unit = unit;
    }

    public static void main(String[] args) throws IOException {
        JavaCompiler compiler = ToolProvider.getSystemJavaCompiler();
        try (StandardJavaFileManager files = compiler.getStandardFileManager(null, null, null)) {
            JavacTask task = (JavacTask) compiler.getTask(
                null, files, null, List.of("--release", "17", "-proc:none"), null, files.getJavaFileObjects(SOURCE));
            Iterable<? extends CompilationUnitTree> units = task.parse();
            task.analyze();
            for (CompilationUnitTree unit : units) {
                LanguageTest test = new LanguageTest(Trees.instance(task), unit);
                test.scan(unit, null);
                test.wholeFile();
            }
        }
        Due.end();
    }

    private void must(int rule, String what, boolean holds) {
        Due.sentence("rule " + rule + " of LANGUAGE.md");
        Due.is(what + ": whether it holds", holds ? 1 : 0, 1);
    }

    private void wholeFile() {
        must(11, "some twelve classes, not " + classes, classes <= 12);
        must(4, "an import of the document's exception alone", unit.getImports().size() == 1);
        must(1, "no package", unit.getPackage() == null);
        for (String method : calls.keySet()) {
            int deep = deepest(method, new LinkedHashSet<>());
            must(11, "calls from " + method + " go " + deep + " deep", deep <= 8);
        }
    }

    /** How many methods stand open at once from one on, each counted once. */
    private int deepest(String method, Set<String> open) {
        if (open.contains(method)) {
            must(8, method + " calls itself and carries its depth", withDepth.contains(method));
            return 0;
        }
        open.add(method);
        int most = 0;
        for (String called : calls.getOrDefault(method, Set.of())) {
            most = Math.max(most, deepest(called, open));
        }
        open.remove(method);
        return most + 1;
    }

    @Override
    public Void scan(Tree tree, Void none) {
        if (tree != null && RULED_OUT.contains(tree.getKind())) {
            must(6, tree.getKind() + " at line " + line(tree), false);
        }
        return super.scan(tree, none);
    }

    @Override
    public Void visitImport(ImportTree tree, Void none) {
        String name = tree.getQualifiedIdentifier().toString();
        must(4, "import " + name, name.equals("java.util.NoSuchElementException"));
        return super.visitImport(tree, none);
    }

    @Override
    public Void visitClass(ClassTree tree, Void none) {
        classes++;
        int fields = 0;
        for (Tree member : tree.getMembers()) {
            must(5, "no initialiser block in " + tree.getSimpleName(), member.getKind() != Tree.Kind.BLOCK);
            if (member instanceof VariableTree field) {
                Set<Modifier> is = field.getModifiers().getFlags();
                boolean constant = is.contains(Modifier.STATIC);
                must(5, "the static " + field.getName() + " is final", !constant || is.contains(Modifier.FINAL));
                fields += constant ? 0 : 1;
            }
        }
        must(11, tree.getSimpleName() + " has " + fields + " fields", fields <= 20);
        must(2, tree.getSimpleName() + " stands in no method", methods.isEmpty());
        must(2, tree.getSimpleName() + " is static", classes == 1
            || tree.getModifiers().getFlags().contains(Modifier.STATIC));
        return super.visitClass(tree, none);
    }

    @Override
    public Void visitVariable(VariableTree tree, Void none) {
        String type = String.valueOf(tree.getType());
        must(3, tree.getName() + " is of the type " + type, TYPES.contains(type));
        return super.visitVariable(tree, none);
    }

    @Override
    public Void visitMethod(MethodTree tree, Void none) {
        String name = nameOf(getCurrentPath());
        long lines = unit.getLineMap().getLineNumber(trees.getSourcePositions().getEndPosition(unit, tree))
            - line(tree) + 1;
        must(11, name + " takes " + tree.getParameters().size(), tree.getParameters().size() <= 7);
        must(11, name + " has " + lines + " lines", lines <= 60);
        for (VariableTree parameter : tree.getParameters()) {
            if (parameter.getName().contentEquals("depth")) {
                must(8, name + " is private", tree.getModifiers().getFlags().contains(Modifier.PRIVATE));
                withDepth.add(name);
            }
        }
        calls.put(name, new LinkedHashSet<>());
        methods.push(name);
        super.visitMethod(tree, none);
        methods.pop();
        return null;
    }

    @Override
    public Void visitMethodInvocation(MethodInvocationTree tree, Void none) {
        String text = tree.getMethodSelect().toString();
        if (!text.equals("super")) {
            String name = nameOf(getCurrentPath());
            boolean own = name.startsWith("CutTrees");
            must(4, "line " + line(tree) + " calls " + text, own || LIBRARY.contains(text));
            if (own) {
                calls.get(methods.peek()).add(name);
            }
        }
        return super.visitMethodInvocation(tree, none);
    }

    @Override
    public Void visitThrow(ThrowTree tree, Void none) {
        String at = "throw at line " + line(tree);
        must(6, at + " is in no constructor", !methods.peek().contains(".<init>"));
        boolean told = tree.getExpression() instanceof NewClassTree made
            && THROWN.contains(made.getIdentifier().toString())
            && made.getArguments().size() == 1
            && made.getArguments().get(0) instanceof LiteralTree;
        must(6, at + " is of a new exception of the document's with a written text", told);
        return super.visitThrow(tree, none);
    }

    /** A method's class and name; of a constructor the name is <init>. */
    private String nameOf(TreePath path) {
        Element method = trees.getElement(path);
        return method.getEnclosingElement() + "." + method.getSimpleName();
    }

    private long line(Tree tree) {
        return unit.getLineMap().getLineNumber(trees.getSourcePositions().getStartPosition(unit, tree));
    }
}
