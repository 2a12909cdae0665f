import com.sun.source.tree.ArrayAccessTree;
import com.sun.source.tree.AssertTree;
import com.sun.source.tree.BinaryTree;
import com.sun.source.tree.BlockTree;
import com.sun.source.tree.ClassTree;
import com.sun.source.tree.CompilationUnitTree;
import com.sun.source.tree.CompoundAssignmentTree;
import com.sun.source.tree.DoWhileLoopTree;
import com.sun.source.tree.EnhancedForLoopTree;
import com.sun.source.tree.ExpressionTree;
import com.sun.source.tree.ForLoopTree;
import com.sun.source.tree.LambdaExpressionTree;
import com.sun.source.tree.LiteralTree;
import com.sun.source.tree.MemberReferenceTree;
import com.sun.source.tree.MethodInvocationTree;
import com.sun.source.tree.MethodTree;
import com.sun.source.tree.NewArrayTree;
import com.sun.source.tree.NewClassTree;
import com.sun.source.tree.SwitchExpressionTree;
import com.sun.source.tree.SynchronizedTree;
import com.sun.source.tree.ThrowTree;
import com.sun.source.tree.Tree;
import com.sun.source.tree.TryTree;
import com.sun.source.tree.VariableTree;
import com.sun.source.tree.WhileLoopTree;
import com.sun.source.util.JavacTask;
import com.sun.source.util.TreePath;
import com.sun.source.util.TreePathScanner;
import com.sun.source.util.Trees;
import java.nio.file.Path;
import java.util.ArrayDeque;
import java.util.Deque;
import java.util.HashMap;
import java.util.LinkedHashSet;
import java.util.List;
import java.util.Map;
import java.util.Set;
import javax.lang.model.element.Element;
import javax.lang.model.element.ElementKind;
import javax.lang.model.element.ExecutableElement;
import javax.lang.model.element.Modifier;
import javax.lang.model.type.ArrayType;
import javax.lang.model.type.TypeKind;
import javax.lang.model.type.TypeMirror;
import javax.tools.JavaCompiler;
import javax.tools.StandardJavaFileManager;
import javax.tools.ToolProvider;

/** The rules of LANGUAGE.md that can be seen from the tree that javac makes of the file: what is called, made, thrown. */
final class TreeRules extends TreePathScanner<Void, Void> {
    private static final int MOST_LINES = 60;
    private static final int DEEPEST = 8;
    /** Of rule 4's library only what the class has a use for. */
    private static final Set<String> LIBRARY = Set.of("java.lang.String.length()", "java.lang.String.charAt(int)", "java.lang.String.indexOf(int)",
        "java.lang.Math.min(int,int)", "java.lang.Math.max(int,int)", "java.lang.Math.abs(int)", "java.lang.Integer.bitCount(int)",
        "java.lang.Long.bitCount(long)", "java.lang.System.arraycopy(java.lang.Object,int,java.lang.Object,int,int)",
        "java.util.Arrays.fill(int[],int)", "java.util.Arrays.fill(long[],long)", "java.util.Arrays.fill(byte[],byte)");

    private final Trees trees;
    private final CompilationUnitTree unit;
    private final Map<Element, Set<Element>> calls = new HashMap<>();
    private final Map<Element, Integer> depths = new HashMap<>();
    private final Deque<Element> open = new ArrayDeque<>();
    private ExecutableElement method;
    private int wrong = 0;

    private TreeRules(Trees trees, CompilationUnitTree unit) {
        this.trees = trees;
        this.unit = unit;
    }

    /** How many rules the file breaks; each is told. */
    static int broken(Path source) throws Exception {
        JavaCompiler compiler = ToolProvider.getSystemJavaCompiler();
        try (StandardJavaFileManager files = compiler.getStandardFileManager(null, null, null)) {
            JavacTask task = (JavacTask) compiler.getTask(null, files, null, List.of("-proc:none"), null, files.getJavaFileObjects(source));
            CompilationUnitTree unit = task.parse().iterator().next();
            task.analyze();
            TreeRules rules = new TreeRules(Trees.instance(task), unit);
            rules.scan(unit, null);
            for (Element caller : rules.calls.keySet()) {
                rules.rule(11, rules.depth(caller) <= DEEPEST, caller + " goes " + rules.depth(caller) + " calls deep", null);
            }
            return rules.wrong;
        }
    }

    private void rule(int number, boolean kept, String what, Tree at) {
        if (kept) return;
        wrong++;
        System.out.println("rule " + number + ": " + (at == null ? "" : "line " + line(at) + ": ") + what);
    }

    private long line(Tree at) {
        return unit.getLineMap().getLineNumber(trees.getSourcePositions().getStartPosition(unit, at));
    }

    private TypeMirror type(Tree tree) {
        return trees.getTypeMirror(new TreePath(getCurrentPath(), tree));
    }

    /** How many calls stand open at once from this one on, itself among them; one that comes back to itself breaks rule 8. */
    private int depth(Element caller) {
        if (open.contains(caller)) {
            rule(8, false, caller + " calls itself", null);
            return 0;
        }
        Integer known = depths.get(caller);
        if (known != null) return known;
        open.push(caller);
        int deepest = 0;
        for (Element called : calls.getOrDefault(caller, Set.of())) deepest = Math.max(deepest, depth(called));
        open.pop();
        depths.put(caller, deepest + 1);
        return deepest + 1;
    }

    private void called(Element what, Tree at) {
        boolean own = what.getEnclosingElement().toString().startsWith("WakeHouse");
        boolean objects = what.toString().equals("Object()");
        rule(4, own || objects || LIBRARY.contains(what.getEnclosingElement() + "." + what), what + " of " + what.getEnclosingElement(), at);
        calls.computeIfAbsent(method, m -> new LinkedHashSet<>()).add(what);
    }

    @Override
    public Void visitMethod(MethodTree tree, Void none) {
        ExecutableElement ahead = method;
        method = (ExecutableElement) trees.getElement(getCurrentPath());
        long end = unit.getLineMap().getLineNumber(trees.getSourcePositions().getEndPosition(unit, tree));
        rule(11, end - line(tree) < MOST_LINES, method + " has " + (end - line(tree) + 1) + " lines", tree);
        rule(11, tree.getParameters().size() <= 7, method + " takes too much", tree);
        super.visitMethod(tree, none);
        method = ahead;
        return null;
    }

    @Override
    public Void visitMethodInvocation(MethodInvocationTree tree, Void none) {
        called(trees.getElement(new TreePath(getCurrentPath(), tree.getMethodSelect())), tree);
        return super.visitMethodInvocation(tree, none);
    }

    @Override
    public Void visitNewClass(NewClassTree tree, Void none) {
        rule(2, tree.getClassBody() == null, "a class of no name", tree);
        if (method != null) {
            rule(12, method.getKind() == ElementKind.CONSTRUCTOR, method + " makes an object", tree);
            called(trees.getElement(getCurrentPath()), tree);
        }
        return super.visitNewClass(tree, none);
    }

    @Override
    public Void visitNewArray(NewArrayTree tree, Void none) {
        rule(12, method == null || method.getKind() == ElementKind.CONSTRUCTOR, method + " makes an array", tree);
        rule(3, tree.getDimensions().size() <= 1, "an array of two dimensions", tree);
        return super.visitNewArray(tree, none);
    }

    @Override
    public Void visitVariable(VariableTree tree, Void none) {
        Element e = trees.getElement(getCurrentPath());
        TypeMirror t = e.asType();
        while (t.getKind() == TypeKind.ARRAY) t = ((ArrayType) t).getComponentType();
        boolean number = t.getKind() == TypeKind.INT || t.getKind() == TypeKind.LONG || t.getKind() == TypeKind.BYTE || t.getKind() == TypeKind.BOOLEAN;
        rule(3, number || t.toString().equals("java.lang.String") || t.toString().startsWith("WakeHouse"), e + " is of " + t, tree);
        boolean fixed = e.getModifiers().contains(Modifier.STATIC);
        if (e.getKind() == ElementKind.FIELD && fixed) {
            rule(5, e.getModifiers().contains(Modifier.FINAL) && tree.getInitializer() != null, e + " is no constant", tree);
        }
        return super.visitVariable(tree, none);
    }

    @Override
    public Void visitBlock(BlockTree tree, Void none) {
        rule(5, !(getCurrentPath().getParentPath().getLeaf() instanceof ClassTree), "a block of its own in a class", tree);
        return super.visitBlock(tree, none);
    }

    private void joined(ExpressionTree side, Tree at) {
        TypeMirror t = type(side);
        rule(10, t == null || t.getKind() != TypeKind.DECLARED, "a text or an object in sums", at);
    }

    @Override
    public Void visitBinary(BinaryTree tree, Void none) {
        if (tree.getKind() != Tree.Kind.EQUAL_TO && tree.getKind() != Tree.Kind.NOT_EQUAL_TO) {
            joined(tree.getLeftOperand(), tree);
            joined(tree.getRightOperand(), tree);
        }
        if (tree.getKind() == Tree.Kind.DIVIDE || tree.getKind() == Tree.Kind.REMAINDER) divisor(tree.getRightOperand(), tree);
        return super.visitBinary(tree, none);
    }

    @Override
    public Void visitCompoundAssignment(CompoundAssignmentTree tree, Void none) {
        joined(tree.getVariable(), tree);
        if (tree.getKind() == Tree.Kind.DIVIDE_ASSIGNMENT || tree.getKind() == Tree.Kind.REMAINDER_ASSIGNMENT) divisor(tree.getExpression(), tree);
        return super.visitCompoundAssignment(tree, none);
    }

    /** Rule 7: a divisor is a number as it stands, a constant, or looked at in the same method ahead of it. */
    private void divisor(ExpressionTree by, Tree at) {
        String text = by.toString().replaceAll("[()]", "");
        boolean constant = text.matches("([A-Z_]+|[1-9][0-9]*)( \\* ([A-Z_]+|[1-9][0-9]*))*");
        boolean looked = trees.getTree(method).getBody().toString().matches("(?s).*\\b" + text + " (== 0|<= |< 1|> 0).*|.*int " + text + " = 1;.*");
        rule(7, constant || looked, "the divisor " + by + " is looked at nowhere", at);
    }

    @Override
    public Void visitWhileLoop(WhileLoopTree tree, Void none) {
        rule(9, tree.getCondition().toString().matches(".*[<>].*"), "no bound is in " + tree.getCondition(), tree);
        return super.visitWhileLoop(tree, none);
    }

    @Override
    public Void visitForLoop(ForLoopTree tree, Void none) {
        boolean counts = tree.getInitializer().size() == 1 && tree.getUpdate().size() == 1 && tree.getCondition() != null
            && tree.getCondition().toString().matches(".*[<>].*");
        rule(9, counts, "a loop without a counter", tree);
        return super.visitForLoop(tree, none);
    }

    @Override
    public Void visitDoWhileLoop(DoWhileLoopTree tree, Void none) {
        rule(9, false, "do: no loop of this class needs it", tree);
        return super.visitDoWhileLoop(tree, none);
    }

    @Override
    public Void visitEnhancedForLoop(EnhancedForLoopTree tree, Void none) {
        rule(12, type(tree.getExpression()).getKind() == TypeKind.ARRAY, "a loop over a list", tree);
        return super.visitEnhancedForLoop(tree, none);
    }

    @Override
    public Void visitLiteral(LiteralTree tree, Void none) {
        Object v = tree.getValue();
        rule(6, tree.getKind() != Tree.Kind.NULL_LITERAL, "null: no reference of this class is ever null", tree);
        rule(4, !(v instanceof String) || ((String) v).chars().allMatch(c -> c >= 1 && c <= 127), "a sign above 127", tree);
        return super.visitLiteral(tree, none);
    }

    @Override
    public Void visitArrayAccess(ArrayAccessTree tree, Void none) {
        rule(7, !tree.getIndex().toString().contains("++") && !tree.getIndex().toString().contains("--"), "an index that moves as it is used", tree);
        return super.visitArrayAccess(tree, none);
    }

    private Void forbidden(Tree tree) {
        rule(6, false, tree.getKind() + " stands in the file", tree);
        return null;
    }

    @Override
    public Void visitThrow(ThrowTree tree, Void none) {
        return forbidden(tree);
    }

    @Override
    public Void visitTry(TryTree tree, Void none) {
        return forbidden(tree);
    }

    @Override
    public Void visitSynchronized(SynchronizedTree tree, Void none) {
        return forbidden(tree);
    }

    @Override
    public Void visitAssert(AssertTree tree, Void none) {
        return forbidden(tree);
    }

    @Override
    public Void visitLambdaExpression(LambdaExpressionTree tree, Void none) {
        return forbidden(tree);
    }

    @Override
    public Void visitMemberReference(MemberReferenceTree tree, Void none) {
        return forbidden(tree);
    }

    @Override
    public Void visitSwitchExpression(SwitchExpressionTree tree, Void none) {
        return forbidden(tree);
    }
}
