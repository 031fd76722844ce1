import com.sun.source.tree.AssertTree;
import com.sun.source.tree.BinaryTree;
import com.sun.source.tree.BlockTree;
import com.sun.source.tree.ClassTree;
import com.sun.source.tree.CompilationUnitTree;
import com.sun.source.tree.DoWhileLoopTree;
import com.sun.source.tree.ExpressionTree;
import com.sun.source.tree.ForLoopTree;
import com.sun.source.tree.IdentifierTree;
import com.sun.source.tree.InstanceOfTree;
import com.sun.source.tree.LambdaExpressionTree;
import com.sun.source.tree.LiteralTree;
import com.sun.source.tree.MemberReferenceTree;
import com.sun.source.tree.MemberSelectTree;
import com.sun.source.tree.MethodInvocationTree;
import com.sun.source.tree.MethodTree;
import com.sun.source.tree.NewArrayTree;
import com.sun.source.tree.NewClassTree;
import com.sun.source.tree.ParenthesizedTree;
import com.sun.source.tree.SynchronizedTree;
import com.sun.source.tree.ThrowTree;
import com.sun.source.tree.Tree;
import com.sun.source.tree.TryTree;
import com.sun.source.tree.TypeCastTree;
import com.sun.source.tree.VariableTree;
import com.sun.source.tree.WhileLoopTree;
import com.sun.source.util.JavacTask;
import com.sun.source.util.TreePath;
import com.sun.source.util.TreePathScanner;
import com.sun.source.util.Trees;
import java.io.File;
import java.io.IOException;
import java.util.Arrays;
import java.util.HashMap;
import java.util.HashSet;
import java.util.List;
import java.util.Map;
import java.util.Set;
import java.util.TreeSet;
import javax.lang.model.element.Element;
import javax.lang.model.element.ElementKind;
import javax.lang.model.element.Modifier;
import javax.lang.model.element.VariableElement;
import javax.lang.model.type.ArrayType;
import javax.lang.model.type.TypeKind;
import javax.lang.model.type.TypeMirror;
import javax.tools.JavaCompiler;
import javax.tools.StandardJavaFileManager;
import javax.tools.ToolProvider;

/**
 * The source of the class against LANGUAGE.md, by the numbers of its rules. Where a rule allows
 * more than the class needs (try, lists, doubles, recursion ..), the test is stricter than the rule.
 * Rule 7 is a matter of LimitsTest and OracleTest, the face of FaceTest.
 */
public final class FormTest extends TreePathScanner<Void, Void> {
    private static final String FOLDER = "src/main/java";
    private static final String FILE = "LegalRows.java";

    private static final Set<String> LIBRARY = new TreeSet<>(Arrays.asList(
            "java.lang.Math.max", "java.lang.Math.min", "java.lang.Math.abs",
            "java.lang.System.arraycopy", "java.lang.Object.<init>"));
    private static final Set<String> THROWN = new TreeSet<>(Arrays.asList(
            "IllegalStateException", "IllegalArgumentException", "IndexOutOfBoundsException"));
    private static final Set<Tree.Kind> COMPARISONS = new HashSet<>(Arrays.asList(
            Tree.Kind.LESS_THAN, Tree.Kind.LESS_THAN_EQUAL,
            Tree.Kind.GREATER_THAN, Tree.Kind.GREATER_THAN_EQUAL));

    private final Trees trees;
    private final CompilationUnitTree unit;
    private final Map<String, Set<String>> calls = new HashMap<>();
    private int classes = 0;

    private FormTest(Trees trees, CompilationUnitTree unit) {
        this.trees = trees;
        this.unit = unit;
    }

    public static void main(String[] args) throws IOException {
        String[] files = new File(FOLDER).list();
        Checks.compare("the program's files", "[" + FILE + "]", Arrays.toString(files));
        JavaCompiler compiler = ToolProvider.getSystemJavaCompiler();
        try (StandardJavaFileManager manager = compiler.getStandardFileManager(null, null, null)) {
            JavacTask task = (JavacTask) compiler.getTask(null, manager, null,
                    List.of("--release", "17", "-proc:none"), null,
                    manager.getJavaFileObjects(new File(FOLDER, FILE)));
            for (CompilationUnitTree unit : task.parse()) {
                task.analyze();
                new FormTest(Trees.instance(task), unit).look();
            }
        }
        Checks.end("FormTest");
    }

    private void look() {
        Checks.due("no package line", null, () -> unit.getPackageName());
        Checks.due("rule 4: nothing is imported", 0, () -> unit.getImports().size());
        Checks.due("rule 1: one class", 1, () -> unit.getTypeDecls().size());
        scan(unit, null);
        within("rule 11: classes", 12, classes);
        for (String method : calls.keySet()) {
            within("rules 8 and 11: calls that stand open from " + method, 8, depth(method, 1));
        }
    }

    private int depth(String method, int level) {
        int deepest = level;
        // Without the limit a call of itself would have no end here.
        if (level <= 20) {
            for (String called : calls.getOrDefault(method, Set.of())) {
                deepest = Math.max(deepest, depth(called, level + 1));
            }
        }
        return deepest;
    }

    private void within(String what, int most, int found) {
        Checks.compare(what, "at most " + most, found <= most ? "at most " + most : "" + found);
    }

    private void must(String what, boolean holds, Tree at) {
        long position = trees.getSourcePositions().getStartPosition(unit, at);
        long line = position < 0 ? 0 : unit.getLineMap().getLineNumber(position);
        Checks.compare(what + ", line " + line, "true", "" + holds);
    }

    @Override
    public Void visitClass(ClassTree tree, Void none) {
        classes++;
        boolean outer = getCurrentPath().getParentPath().getLeaf() == unit;
        Set<Modifier> flags = tree.getModifiers().getFlags();
        must("rule 2: a class inside is static, no local or anonymous one",
                outer || isClass(getCurrentPath().getParentPath().getLeaf())
                        && flags.contains(Modifier.STATIC), tree);
        int fields = 0;
        for (Tree member : tree.getMembers()) {
            must("rule 5: no block beside methods", !(member instanceof BlockTree), member);
            if (member instanceof VariableTree && !isStatic((VariableTree) member)) {
                fields++;
            }
        }
        within("rule 11: fields of " + tree.getSimpleName(), 20, fields);
        return super.visitClass(tree, none);
    }

    @Override
    public Void visitVariable(VariableTree tree, Void none) {
        must("rule 3: " + tree, isKnownType(trees.getElement(getCurrentPath()).asType()), tree);
        if (isStatic(tree)) {
            VariableElement element = (VariableElement) trees.getElement(getCurrentPath());
            must("rule 5: " + tree, element.getModifiers().contains(Modifier.FINAL)
                    && element.getConstantValue() != null, tree);
        }
        return super.visitVariable(tree, none);
    }

    @Override
    public Void visitMethod(MethodTree tree, Void none) {
        within("rule 11: parameters of " + tree.getName(), 7, tree.getParameters().size());
        within("rule 11: lines of " + tree.getName(), 60, lines(tree));
        if (tree.getReturnType() != null) {
            TypeMirror type = trees.getTypeMirror(new TreePath(getCurrentPath(), tree.getReturnType()));
            must("rule 3: " + tree.getName() + " answers", type.getKind() == TypeKind.VOID
                    || isKnownType(type), tree);
        }
        return super.visitMethod(tree, none);
    }

    private int lines(MethodTree tree) {
        long from = trees.getSourcePositions().getStartPosition(unit, tree);
        long to = trees.getSourcePositions().getEndPosition(unit, tree);
        if (from < 0 || to < 0) {
            return 0;
        }
        return (int) (unit.getLineMap().getLineNumber(to) - unit.getLineMap().getLineNumber(from) + 1);
    }

    @Override
    public Void visitMethodInvocation(MethodInvocationTree tree, Void none) {
        Element called = trees.getElement(getCurrentPath());
        must("rule 4: " + tree, isOwn(called) || LIBRARY.contains(nameOf(called)), tree);
        TreePath caller = enclosing(Tree.Kind.METHOD);
        if (caller != null) {
            String name = nameOf(trees.getElement(caller));
            calls.computeIfAbsent(name, key -> new TreeSet<>()).add(nameOf(called));
            must("rule 12: a constructor calls none of its class's methods",
                    !name.endsWith("<init>") || !isOwn(called), tree);
        }
        return super.visitMethodInvocation(tree, none);
    }

    @Override
    public Void visitMemberSelect(MemberSelectTree tree, Void none) {
        Element element = trees.getElement(getCurrentPath());
        boolean foreignField = element != null && element.getKind() == ElementKind.FIELD
                && !isOwn(element) && !tree.getIdentifier().contentEquals("length");
        must("rule 4: " + tree, !foreignField, tree);
        return super.visitMemberSelect(tree, none);
    }

    @Override
    public Void visitIdentifier(IdentifierTree tree, Void none) {
        boolean handedOut = tree.getName().contentEquals("this") && inConstructor()
                && !(getCurrentPath().getParentPath().getLeaf() instanceof MemberSelectTree);
        must("rule 12: a constructor hands out nothing", !handedOut, tree);
        return super.visitIdentifier(tree, none);
    }

    @Override
    public Void visitNewClass(NewClassTree tree, Void none) {
        must("rule 2: no anonymous class", tree.getClassBody() == null, tree);
        boolean thrown = getCurrentPath().getParentPath().getLeaf() instanceof ThrowTree;
        must("rule 12: objects come from constructors alone", thrown || isMadeOnce(), tree);
        return super.visitNewClass(tree, none);
    }

    @Override
    public Void visitNewArray(NewArrayTree tree, Void none) {
        must("rule 12: arrays come from constructors alone", isMadeOnce(), tree);
        return super.visitNewArray(tree, none);
    }

    @Override
    public Void visitThrow(ThrowTree tree, Void none) {
        boolean made = tree.getExpression() instanceof NewClassTree;
        must("rule 6: what is thrown is new", made, tree);
        if (made) {
            NewClassTree exception = (NewClassTree) tree.getExpression();
            must("rule 6: which exception", THROWN.contains("" + exception.getIdentifier()), tree);
            must("rule 6: a written text", exception.getArguments().isEmpty()
                    || exception.getArguments().size() == 1
                    && exception.getArguments().get(0).getKind() == Tree.Kind.STRING_LITERAL, tree);
        }
        must("rule 6: no throw in a constructor", !inConstructor(), tree);
        return super.visitThrow(tree, none);
    }

    @Override
    public Void visitTypeCast(TypeCastTree tree, Void none) {
        must("rule 6: casts of numbers alone",
                trees.getTypeMirror(getCurrentPath()).getKind().isPrimitive(), tree);
        return super.visitTypeCast(tree, none);
    }

    @Override
    public Void visitBinary(BinaryTree tree, Void none) {
        boolean number = trees.getTypeMirror(getCurrentPath()).getKind().isPrimitive();
        must("rule 10: no joined texts", number, tree);
        if (tree.getKind() == Tree.Kind.DIVIDE || tree.getKind() == Tree.Kind.REMAINDER) {
            must("rule 7: divisors are written numbers",
                    tree.getRightOperand() instanceof LiteralTree
                            && !tree.getRightOperand().toString().equals("0"), tree);
        }
        return super.visitBinary(tree, none);
    }

    @Override
    public Void visitForLoop(ForLoopTree tree, Void none) {
        mustEnd(tree.getCondition(), tree);
        return super.visitForLoop(tree, none);
    }

    @Override
    public Void visitWhileLoop(WhileLoopTree tree, Void none) {
        mustEnd(tree.getCondition(), tree);
        return super.visitWhileLoop(tree, none);
    }

    @Override
    public Void visitDoWhileLoop(DoWhileLoopTree tree, Void none) {
        mustEnd(tree.getCondition(), tree);
        return super.visitDoWhileLoop(tree, none);
    }

    /** One of the things that must all hold is a number against a bound. */
    private void mustEnd(ExpressionTree condition, Tree loop) {
        must("rule 9: a counter against a bound", condition != null && isBounded(condition), loop);
    }

    private boolean isBounded(ExpressionTree condition) {
        ExpressionTree bare = condition;
        while (bare instanceof ParenthesizedTree) {
            bare = ((ParenthesizedTree) bare).getExpression();
        }
        if (bare.getKind() == Tree.Kind.CONDITIONAL_AND) {
            BinaryTree both = (BinaryTree) bare;
            return isBounded(both.getLeftOperand()) || isBounded(both.getRightOperand());
        }
        return COMPARISONS.contains(bare.getKind());
    }

    @Override
    public Void visitLambdaExpression(LambdaExpressionTree tree, Void none) {
        must("rule 2: no lambda", false, tree);
        return super.visitLambdaExpression(tree, none);
    }

    @Override
    public Void visitMemberReference(MemberReferenceTree tree, Void none) {
        must("rule 2: no method reference", false, tree);
        return super.visitMemberReference(tree, none);
    }

    @Override
    public Void visitTry(TryTree tree, Void none) {
        must("rule 6: no try", false, tree);
        return super.visitTry(tree, none);
    }

    @Override
    public Void visitSynchronized(SynchronizedTree tree, Void none) {
        must("rule 6: no synchronized", false, tree);
        return super.visitSynchronized(tree, none);
    }

    @Override
    public Void visitAssert(AssertTree tree, Void none) {
        must("rule 6: no assert", false, tree);
        return super.visitAssert(tree, none);
    }

    @Override
    public Void visitInstanceOf(InstanceOfTree tree, Void none) {
        must("rule 6: no instanceof", false, tree);
        return super.visitInstanceOf(tree, none);
    }

    private static boolean isClass(Tree tree) {
        return tree instanceof ClassTree;
    }

    private static boolean isStatic(VariableTree tree) {
        return tree.getModifiers().getFlags().contains(Modifier.STATIC);
    }

    private static boolean isKnownType(TypeMirror type) {
        if (type.getKind() == TypeKind.ARRAY) {
            TypeKind inside = ((ArrayType) type).getComponentType().getKind();
            return inside == TypeKind.INT || inside == TypeKind.LONG || inside == TypeKind.BOOLEAN;
        }
        return type.getKind() == TypeKind.INT || type.getKind() == TypeKind.LONG
                || type.getKind() == TypeKind.BOOLEAN || type.toString().startsWith("LegalRows.");
    }

    private static boolean isOwn(Element element) {
        return nameOf(element).startsWith("LegalRows");
    }

    private static String nameOf(Element element) {
        return element.getEnclosingElement() + "." + element.getSimpleName();
    }

    private TreePath enclosing(Tree.Kind kind) {
        TreePath path = getCurrentPath();
        while (path != null && path.getLeaf().getKind() != kind) {
            path = path.getParentPath();
        }
        return path;
    }

    private boolean inConstructor() {
        TreePath method = enclosing(Tree.Kind.METHOD);
        return method != null && ((MethodTree) method.getLeaf()).getName().contentEquals("<init>");
    }

    /** In a constructor or with a field that each object has; in no loop. */
    private boolean isMadeOnce() {
        boolean inLoop = enclosing(Tree.Kind.FOR_LOOP) != null
                || enclosing(Tree.Kind.WHILE_LOOP) != null
                || enclosing(Tree.Kind.ENHANCED_FOR_LOOP) != null
                || enclosing(Tree.Kind.DO_WHILE_LOOP) != null;
        return !inLoop && (inConstructor() || enclosing(Tree.Kind.METHOD) == null);
    }
}
