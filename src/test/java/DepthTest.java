import com.sun.source.tree.AssertTree;
import com.sun.source.tree.BinaryTree;
import com.sun.source.tree.ClassTree;
import com.sun.source.tree.CompilationUnitTree;
import com.sun.source.tree.CompoundAssignmentTree;
import com.sun.source.tree.DoWhileLoopTree;
import com.sun.source.tree.EnhancedForLoopTree;
import com.sun.source.tree.ExpressionTree;
import com.sun.source.tree.ForLoopTree;
import com.sun.source.tree.LambdaExpressionTree;
import com.sun.source.tree.LiteralTree;
import com.sun.source.tree.MemberReferenceTree;
import com.sun.source.tree.MethodInvocationTree;
import com.sun.source.tree.MethodTree;
import com.sun.source.tree.NewArrayTree;
import com.sun.source.tree.NewClassTree;
import com.sun.source.tree.ParenthesizedTree;
import com.sun.source.tree.Tree;
import com.sun.source.tree.TypeCastTree;
import com.sun.source.tree.WhileLoopTree;
import com.sun.source.util.JavacTask;
import com.sun.source.util.TreePath;
import com.sun.source.util.TreePathScanner;
import com.sun.source.util.Trees;
import java.io.IOException;
import java.nio.file.Path;
import java.util.HashMap;
import java.util.List;
import java.util.Map;
import java.util.Set;
import java.util.TreeSet;
import javax.lang.model.element.Element;
import javax.lang.model.element.VariableElement;
import javax.lang.model.type.TypeKind;
import javax.tools.JavaCompiler;
import javax.tools.StandardJavaFileManager;
import javax.tools.ToolProvider;

/**
 * Those rules of LANGUAGE.md that want the program's trees: how deep calls go and that none comes round (8, 11), that
 * each loop tells its end (9), that no call makes anything (12), that no divisor can be 0 and no cast fail (6, 7).
 */
public final class DepthTest {
    private static final Path SOURCE = Path.of("src/main/java/RootGates.java");
    private static final int MOST_DEEP = 8;
    private static final int COMES_ROUND = 1000;
    private static final int NO_CONSTANT = -1;
    private static final Due due = new Due();

    private final Map<String, Set<String>> calls = new HashMap<>();
    private final Map<String, Integer> depths = new HashMap<>();

    public static void main(String[] args) throws IOException {
        JavaCompiler compiler = ToolProvider.getSystemJavaCompiler();
        try (StandardJavaFileManager files = compiler.getStandardFileManager(null, null, null)) {
            JavacTask task = (JavacTask) compiler.getTask(null, files, null, List.of("-proc:none"), null,
                files.getJavaFileObjects(SOURCE));
            Iterable<? extends CompilationUnitTree> units = task.parse();
            task.analyze();
            DepthTest test = new DepthTest();
            for (CompilationUnitTree unit : units) {
                test.new Reader(Trees.instance(task), unit).scan(unit, null);
            }
            test.compareDepths();
        }
        due.end();
    }

    private void compareDepths() {
        due.isTrue("methods are found", calls.size() > 100);
        for (String method : new TreeSet<>(calls.keySet())) {
            int depth = depthOf(method);
            due.isTrue("calls go at most " + MOST_DEEP + " deep from " + method + ", not " + depth, depth <= MOST_DEEP);
        }
    }

    private int depthOf(String method) {
        Integer known = depths.get(method);
        if (known != null) {
            return known;
        }
        // whoever asks for it again while it is open has come round
        depths.put(method, COMES_ROUND);
        int deepest = 0;
        for (String callee : calls.getOrDefault(method, Set.of())) {
            deepest = Math.max(deepest, depthOf(callee));
        }
        depths.put(method, deepest + 1);
        return deepest + 1;
    }

    private final class Reader extends TreePathScanner<Void, Void> {
        private final Trees trees;
        private final CompilationUnitTree unit;

        Reader(Trees trees, CompilationUnitTree unit) {
            this.trees = trees;
            this.unit = unit;
        }

        private String place(Tree tree) {
            long at = trees.getSourcePositions().getStartPosition(unit, tree);
            return "line " + unit.getLineMap().getLineNumber(at) + ": " + tree.toString().split("\n")[0];
        }

        /** The method around this place; what a field begins with belongs to the constructor. */
        private String method() {
            for (TreePath path = getCurrentPath(); path != null; path = path.getParentPath()) {
                if (path.getLeaf() instanceof MethodTree) {
                    return nameOf(trees.getElement(path));
                }
                if (path.getLeaf() instanceof ClassTree) {
                    return trees.getElement(path) + ".<init>";
                }
            }
            return "";
        }

        private String nameOf(Element method) {
            return method.getEnclosingElement() + "." + method.getSimpleName();
        }

        private void keepCall(String callee) {
            calls.computeIfAbsent(method(), name -> new TreeSet<>()).add(callee);
        }

        @Override
        public Void visitMethod(MethodTree tree, Void none) {
            calls.computeIfAbsent(nameOf(trees.getElement(getCurrentPath())), name -> new TreeSet<>());
            return super.visitMethod(tree, none);
        }

        @Override
        public Void visitMethodInvocation(MethodInvocationTree tree, Void none) {
            keepCall(nameOf(trees.getElement(getCurrentPath())));
            return super.visitMethodInvocation(tree, none);
        }

        @Override
        public Void visitNewClass(NewClassTree tree, Void none) {
            keepCall(nameOf(trees.getElement(getCurrentPath())));
            due.isTrue("made with an object alone, " + place(tree), method().endsWith("<init>"));
            due.isTrue("no class without a name, " + place(tree), tree.getClassBody() == null);
            return super.visitNewClass(tree, none);
        }

        @Override
        public Void visitNewArray(NewArrayTree tree, Void none) {
            due.isTrue("made with an object alone, " + place(tree), method().endsWith("<init>"));
            for (ExpressionTree size : tree.getDimensions()) {
                due.isTrue("a length that is told, " + place(tree), constantOf(size) > 0);
            }
            return super.visitNewArray(tree, none);
        }

        @Override
        public Void visitForLoop(ForLoopTree tree, Void none) {
            due.isTrue("a counter against a bound, " + place(tree), tree.getCondition() != null
                && tree.getInitializer().size() == 1 && tree.getUpdate().size() == 1);
            return super.visitForLoop(tree, none);
        }

        @Override
        public Void visitEnhancedForLoop(EnhancedForLoopTree tree, Void none) {
            TreePath row = new TreePath(getCurrentPath(), tree.getExpression());
            due.isTrue("over an array, " + place(tree), trees.getTypeMirror(row).getKind() == TypeKind.ARRAY);
            return super.visitEnhancedForLoop(tree, none);
        }

        @Override
        public Void visitBinary(BinaryTree tree, Void none) {
            boolean divides = tree.getKind() == Tree.Kind.DIVIDE || tree.getKind() == Tree.Kind.REMAINDER;
            due.isTrue("a divisor that is told, " + place(tree), !divides || constantOf(tree.getRightOperand()) > 0);
            return super.visitBinary(tree, none);
        }

        @Override
        public Void visitCompoundAssignment(CompoundAssignmentTree tree, Void none) {
            boolean divides = tree.getKind() == Tree.Kind.DIVIDE_ASSIGNMENT
                || tree.getKind() == Tree.Kind.REMAINDER_ASSIGNMENT;
            due.isTrue("a divisor that is told, " + place(tree), !divides || constantOf(tree.getExpression()) > 0);
            return super.visitCompoundAssignment(tree, none);
        }

        @Override
        public Void visitTypeCast(TypeCastTree tree, Void none) {
            TreePath type = new TreePath(getCurrentPath(), tree.getType());
            due.isTrue("a cast of numbers alone, " + place(tree), trees.getTypeMirror(type).getKind().isPrimitive());
            return super.visitTypeCast(tree, none);
        }

        @Override
        public Void visitWhileLoop(WhileLoopTree tree, Void none) {
            return isNone(tree);
        }

        @Override
        public Void visitDoWhileLoop(DoWhileLoopTree tree, Void none) {
            return isNone(tree);
        }

        @Override
        public Void visitLambdaExpression(LambdaExpressionTree tree, Void none) {
            return isNone(tree);
        }

        @Override
        public Void visitMemberReference(MemberReferenceTree tree, Void none) {
            return isNone(tree);
        }

        @Override
        public Void visitAssert(AssertTree tree, Void none) {
            return isNone(tree);
        }

        private Void isNone(Tree tree) {
            due.isTrue("none such, " + place(tree), false);
            return null;
        }

        /** Of what is written as literals, constants and + - * of these; below 0 of all else. */
        private int constantOf(ExpressionTree tree) {
            if (tree instanceof LiteralTree literal) {
                return literal.getValue() instanceof Integer number ? number : NO_CONSTANT;
            }
            if (tree instanceof ParenthesizedTree inner) {
                return constantOf(inner.getExpression());
            }
            if (tree instanceof BinaryTree two) {
                return constantOfTwo(two);
            }
            Element element = trees.getElement(trees.getPath(unit, tree));
            return element instanceof VariableElement field && field.getConstantValue() instanceof Integer number
                ? number : NO_CONSTANT;
        }

        private int constantOfTwo(BinaryTree tree) {
            int left = constantOf(tree.getLeftOperand());
            int right = constantOf(tree.getRightOperand());
            if (left < 0 || right < 0) {
                return NO_CONSTANT;
            }
            return switch (tree.getKind()) {
                case PLUS -> left + right;
                case MINUS -> left - right;
                case MULTIPLY -> left * right;
                default -> NO_CONSTANT;
            };
        }
    }
}
