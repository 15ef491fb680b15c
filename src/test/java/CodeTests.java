import com.sun.source.tree.BinaryTree;
import com.sun.source.tree.ClassTree;
import com.sun.source.tree.CompilationUnitTree;
import com.sun.source.tree.LiteralTree;
import com.sun.source.tree.MethodInvocationTree;
import com.sun.source.tree.MethodTree;
import com.sun.source.tree.NewArrayTree;
import com.sun.source.tree.NewClassTree;
import com.sun.source.tree.Tree;
import com.sun.source.tree.VariableTree;
import com.sun.source.util.JavacTask;
import com.sun.source.util.TreePath;
import com.sun.source.util.TreePathScanner;
import com.sun.source.util.Trees;
import java.io.File;
import java.io.IOException;
import java.util.List;
import java.util.Map;
import java.util.Set;
import java.util.TreeMap;
import java.util.TreeSet;
import javax.lang.model.element.Element;
import javax.lang.model.element.ElementKind;
import javax.lang.model.element.Modifier;
import javax.lang.model.element.VariableElement;
import javax.tools.JavaCompiler;
import javax.tools.StandardJavaFileManager;
import javax.tools.ToolProvider;

/**
 * The rules of LANGUAGE.md that need the compiler's trees: which method calls which one, how deep
 * the calls go, what is called of the library, what is divided by, and where objects are made.
 */
public final class CodeTests extends TreePathScanner<Void, Void> {
    private static final File SOURCE = new File("src/main/java/TableLearner.java");
    private static final int DEEPEST = 8;
    private static final Set<String> LIBRARY = Set.of(
            "java.util.Arrays.fill", "java.lang.Math.max", "java.lang.System.arraycopy");
    private static final Set<String> TYPES = Set.of("int", "long", "boolean", "int[]", "long[]");

    /** Forms that rules 2, 6 and 10 leave out, or that this class has no need of. */
    private static final Set<Tree.Kind> LEFT_OUT = Set.of(
            Tree.Kind.THROW, Tree.Kind.TRY, Tree.Kind.CATCH, Tree.Kind.SYNCHRONIZED, Tree.Kind.ASSERT,
            Tree.Kind.LAMBDA_EXPRESSION, Tree.Kind.MEMBER_REFERENCE, Tree.Kind.INSTANCE_OF,
            Tree.Kind.STRING_LITERAL, Tree.Kind.DOUBLE_LITERAL, Tree.Kind.FLOAT_LITERAL,
            Tree.Kind.WHILE_LOOP, Tree.Kind.DO_WHILE_LOOP);

    private static int wrong = 0;

    private final Trees trees;
    private final Map<String, Set<String>> calls = new TreeMap<>();
    private final Set<String> publicNames = new TreeSet<>();
    private final Set<String> otherNames = new TreeSet<>();

    private CodeTests(Trees trees) {
        this.trees = trees;
    }

    public static void main(String[] args) throws IOException {
        JavaCompiler compiler = ToolProvider.getSystemJavaCompiler();
        try (StandardJavaFileManager files = compiler.getStandardFileManager(null, null, null)) {
            JavacTask task = (JavacTask) compiler.getTask(null, files, null, List.of("-proc:none"),
                    null, files.getJavaFileObjects(SOURCE));
            Iterable<? extends CompilationUnitTree> units = task.parse();
            task.analyze();
            CodeTests tests = new CodeTests(Trees.instance(task));
            for (CompilationUnitTree unit : units) {
                tests.scan(unit, null);
            }
            tests.names();
            tests.depths();
        }
        System.out.println(wrong == 0 ? "all rules are kept" : wrong + " rules are not kept");
        if (wrong != 0) System.exit(1);
    }

    private static void check(boolean holds, String what) {
        if (!holds) {
            wrong++;
            System.out.println("not kept: " + what);
        }
    }

    private Element element() {
        return trees.getElement(getCurrentPath());
    }

    private static String name(Element element) {
        return element.getEnclosingElement() + "." + element;
    }

    private static boolean isOurs(Element element) {
        return element.getEnclosingElement().toString().startsWith("TableLearner");
    }

    /** The method that a tree stands in; a field's initialiser belongs to its class's constructor. */
    private Element around() {
        for (TreePath path = getCurrentPath(); path != null; path = path.getParentPath()) {
            if (path.getLeaf() instanceof MethodTree) {
                return trees.getElement(path);
            }
            if (path.getLeaf() instanceof ClassTree) {
                return constructor(trees.getElement(path));
            }
        }
        throw new IllegalStateException("a call outside any class");
    }

    private static Element constructor(Element type) {
        for (Element member : type.getEnclosedElements()) {
            if (member.getKind() == ElementKind.CONSTRUCTOR) return member;
        }
        throw new IllegalStateException("no constructor in " + type);
    }

    private void call(Element callee) {
        if (isOurs(callee)) {
            calls.computeIfAbsent(name(around()), k -> new TreeSet<>()).add(name(callee));
            return;
        }
        String called = callee.getEnclosingElement() + "." + callee.getSimpleName();
        boolean ofObject = called.equals("java.lang.Object.<init>");
        check(ofObject || LIBRARY.contains(called), "rule 4: " + called + " in " + around());
    }

    @Override
    public Void scan(Tree tree, Void nothing) {
        if (tree != null) {
            check(!LEFT_OUT.contains(tree.getKind()), "rules 2, 6 and 10: " + tree.getKind());
        }
        return super.scan(tree, nothing);
    }

    @Override
    public Void visitMethod(MethodTree tree, Void nothing) {
        Element method = element();
        calls.computeIfAbsent(name(method), k -> new TreeSet<>());
        if (method.getKind() == ElementKind.METHOD) {
            boolean isPublic = method.getModifiers().contains(Modifier.PUBLIC);
            (isPublic ? publicNames : otherNames).add(method.getSimpleName().toString());
        }
        return super.visitMethod(tree, nothing);
    }

    @Override
    public Void visitMethodInvocation(MethodInvocationTree tree, Void nothing) {
        call(trees.getElement(new TreePath(getCurrentPath(), tree.getMethodSelect())));
        return super.visitMethodInvocation(tree, nothing);
    }

    @Override
    public Void visitNewClass(NewClassTree tree, Void nothing) {
        call(element());
        madeWhereAllowed(tree);
        return super.visitNewClass(tree, nothing);
    }

    @Override
    public Void visitNewArray(NewArrayTree tree, Void nothing) {
        madeWhereAllowed(tree);
        return super.visitNewArray(tree, nothing);
    }

    /** All calls of a run live in one room, so only a slot may come to what a constructor made. */
    private void madeWhereAllowed(Tree tree) {
        boolean inConstructor = around().getKind() == ElementKind.CONSTRUCTOR;
        boolean isSlot = around().toString().equals("save(int)") && tree instanceof NewClassTree;
        check(inConstructor || isSlot, "rule 12: " + tree + " in " + around());
    }

    @Override
    public Void visitVariable(VariableTree tree, Void nothing) {
        Element variable = element();
        String type = variable.asType().toString();
        check(TYPES.contains(type) || type.startsWith("TableLearner."), "rule 3: " + tree);
        if (variable.getModifiers().contains(Modifier.STATIC)) {
            Object value = ((VariableElement) variable).getConstantValue();
            check(value != null, "rule 5: " + tree);
        }
        return super.visitVariable(tree, nothing);
    }

    @Override
    public Void visitBinary(BinaryTree tree, Void nothing) {
        if (tree.getKind() == Tree.Kind.DIVIDE || tree.getKind() == Tree.Kind.REMAINDER) {
            check(isSafeDivisor(tree.getRightOperand()), "rule 7: " + tree);
        }
        return super.visitBinary(tree, nothing);
    }

    private boolean isSafeDivisor(Tree divisor) {
        Object value = divisor instanceof LiteralTree literal ? literal.getValue() : null;
        Element element = trees.getElement(new TreePath(getCurrentPath(), divisor));
        if (element instanceof VariableElement variable) {
            value = variable.getConstantValue();
        }
        return value instanceof Integer number && number != 0;
    }

    private void names() {
        for (String name : otherNames) {
            check(!publicNames.contains(name), "rule 1: another method named " + name);
        }
    }

    private void depths() {
        int deepest = 0;
        for (String method : calls.keySet()) {
            deepest = Math.max(deepest, depth(method, new TreeSet<>()));
        }
        check(deepest <= DEEPEST, "rule 11: calls go " + deepest + " deep");
        check(deepest > 5 && calls.size() > 60, "the calls were not found");
    }

    private int depth(String method, Set<String> open) {
        if (!open.add(method)) {
            check(false, "rule 8: recursion through " + open);
            return 0;
        }
        int below = 0;
        for (String callee : calls.getOrDefault(method, Set.of())) {
            below = Math.max(below, depth(callee, open));
        }
        open.remove(method);
        return below + 1;
    }
}
