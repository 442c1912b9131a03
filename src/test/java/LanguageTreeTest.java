import com.sun.source.tree.ArrayTypeTree;
import com.sun.source.tree.BinaryTree;
import com.sun.source.tree.ClassTree;
import com.sun.source.tree.CompilationUnitTree;
import com.sun.source.tree.DoWhileLoopTree;
import com.sun.source.tree.ExpressionTree;
import com.sun.source.tree.ForLoopTree;
import com.sun.source.tree.InstanceOfTree;
import com.sun.source.tree.LambdaExpressionTree;
import com.sun.source.tree.MethodInvocationTree;
import com.sun.source.tree.MethodTree;
import com.sun.source.tree.NewArrayTree;
import com.sun.source.tree.NewClassTree;
import com.sun.source.tree.ParenthesizedTree;
import com.sun.source.tree.PrimitiveTypeTree;
import com.sun.source.tree.StatementTree;
import com.sun.source.tree.Tree;
import com.sun.source.tree.TypeCastTree;
import com.sun.source.tree.UnaryTree;
import com.sun.source.tree.VariableTree;
import com.sun.source.tree.WhileLoopTree;
import com.sun.source.util.JavacTask;
import com.sun.source.util.TreePathScanner;
import com.sun.source.util.TreeScanner;
import com.sun.source.util.Trees;
import java.nio.file.Files;
import java.nio.file.Path;
import java.util.ArrayList;
import java.util.HashSet;
import java.util.LinkedHashMap;
import java.util.LinkedHashSet;
import java.util.List;
import java.util.Map;
import java.util.Set;
import javax.lang.model.element.Element;
import javax.lang.model.element.ElementKind;
import javax.lang.model.element.Modifier;
import javax.tools.JavaCompiler;
import javax.tools.StandardJavaFileManager;
import javax.tools.ToolProvider;

/** What of ../shared/LANGUAGE.md can be told from the compiler's tree of the source. */
public final class LanguageTreeTest {
    private static final Set<Tree.Kind> BOUNDS = Set.of(Tree.Kind.LESS_THAN, Tree.Kind.LESS_THAN_EQUAL,
        Tree.Kind.GREATER_THAN, Tree.Kind.GREATER_THAN_EQUAL);
    private static final Set<Tree.Kind> STEPS = Set.of(Tree.Kind.POSTFIX_INCREMENT, Tree.Kind.POSTFIX_DECREMENT,
        Tree.Kind.PREFIX_INCREMENT, Tree.Kind.PREFIX_DECREMENT);
    private static final int DEEPEST = 8;
    private static int wrong;
    private static int loops;

    private final Map<Element, Set<Element>> calls = new LinkedHashMap<>();

    private static void due(boolean isSo, String what) {
        if (!isSo) {
            wrong++;
            System.out.println("LANGUAGE.md: " + what);
        }
    }

    /** Looks at each method's body; keeps which methods of the file it calls. */
    private final class Reader extends TreePathScanner<Void, Void> {
        private final Trees trees;
        private final CompilationUnitTree unit;
        private Element method;

        Reader(Trees trees, CompilationUnitTree unit) {
            this.trees = trees;
            this.unit = unit;
        }

        private String at(Tree tree) {
            return " at line "
                + unit.getLineMap().getLineNumber(trees.getSourcePositions().getStartPosition(unit, tree));
        }

        @Override
        public Void visitMethod(MethodTree tree, Void none) {
            method = trees.getElement(getCurrentPath());
            calls.put(method, new LinkedHashSet<>());
            super.visitMethod(tree, none);
            method = null;
            return null;
        }

        @Override
        public Void visitMethodInvocation(MethodInvocationTree tree, Void none) {
            Element called = trees.getElement(getCurrentPath());
            if (method != null && called != null) {
                calls.get(method).add(called);
            }
            return super.visitMethodInvocation(tree, none);
        }

        @Override
        public Void visitForLoop(ForLoopTree tree, Void none) {
            ends(tree.getCondition(), tree);
            return super.visitForLoop(tree, none);
        }

        @Override
        public Void visitWhileLoop(WhileLoopTree tree, Void none) {
            ends(tree.getCondition(), tree);
            return super.visitWhileLoop(tree, none);
        }

        @Override
        public Void visitDoWhileLoop(DoWhileLoopTree tree, Void none) {
            ends(tree.getCondition(), tree);
            return super.visitDoWhileLoop(tree, none);
        }

        private void ends(ExpressionTree condition, Tree loop) {
            loops++;
            due(hasEnd(condition, loop), "9: no counter against a bound" + at(loop));
        }

        private void made(Tree tree) {
            due(method == null || method.getKind() == ElementKind.CONSTRUCTOR, "12: made by a call" + at(tree));
        }

        @Override
        public Void visitNewArray(NewArrayTree tree, Void none) {
            made(tree);
            return super.visitNewArray(tree, none);
        }

        @Override
        public Void visitNewClass(NewClassTree tree, Void none) {
            made(tree);
            due(tree.getClassBody() == null, "2: an anonymous class" + at(tree));
            return super.visitNewClass(tree, none);
        }

        @Override
        public Void visitTypeCast(TypeCastTree tree, Void none) {
            due(tree.getType() instanceof PrimitiveTypeTree, "6: a cast that may fail" + at(tree));
            return super.visitTypeCast(tree, none);
        }

        @Override
        public Void visitInstanceOf(InstanceOfTree tree, Void none) {
            due(tree.getPattern() == null || tree.getPattern().getKind() == Tree.Kind.BINDING_PATTERN,
                "6: a record pattern" + at(tree));
            return super.visitInstanceOf(tree, none);
        }

        @Override
        public Void visitLambdaExpression(LambdaExpressionTree tree, Void none) {
            due(false, "2: a lambda" + at(tree));
            return super.visitLambdaExpression(tree, none);
        }

        @Override
        public Void visitClass(ClassTree tree, Void none) {
            due(method == null, "2: a local class" + at(tree));
            return super.visitClass(tree, none);
        }

        @Override
        public Void visitVariable(VariableTree tree, Void none) {
            Tree type = tree.getType();
            int dimensions = 0;
            while (type instanceof ArrayTypeTree) {
                type = ((ArrayTypeTree) type).getType();
                dimensions++;
            }
            due(dimensions <= (type instanceof PrimitiveTypeTree ? 2 : 1), "3: dimensions" + at(tree));
            return super.visitVariable(tree, none);
        }
    }

    /** Whether a variable that a condition joined by && alone bounds is counted on in the loop. */
    private static boolean hasEnd(ExpressionTree condition, Tree loop) {
        Set<String> bounded = new HashSet<>();
        bounds(condition, bounded);
        Set<String> counted = new HashSet<>();
        new TreeScanner<Void, Void>() {
            @Override
            public Void visitUnary(UnaryTree tree, Void none) {
                if (STEPS.contains(tree.getKind())) {
                    counted.add(tree.getExpression().toString());
                }
                return super.visitUnary(tree, none);
            }
        }.scan(loop, null);
        bounded.retainAll(counted);
        return !bounded.isEmpty();
    }

    private static void bounds(Tree condition, Set<String> bounded) {
        if (condition != null && condition.getKind() == Tree.Kind.PARENTHESIZED) {
            bounds(((ParenthesizedTree) condition).getExpression(), bounded);
        } else if (condition instanceof BinaryTree) {
            BinaryTree binary = (BinaryTree) condition;
            if (condition.getKind() == Tree.Kind.CONDITIONAL_AND) {
                bounds(binary.getLeftOperand(), bounded);
                bounds(binary.getRightOperand(), bounded);
            } else if (BOUNDS.contains(condition.getKind())) {
                bounded.add(binary.getLeftOperand().toString());
            }
        }
    }

    private boolean isOwn(Element called) {
        return calls.containsKey(called);
    }

    private int depth(Element method, List<Element> open) {
        if (open.contains(method)) {
            due(open.get(open.size() - 1).equals(method), "8: methods that call one another: " + open + " " + method);
            due(method.getModifiers().containsAll(Set.of(Modifier.PRIVATE, Modifier.STATIC)),
                "8: calls itself, not private static: " + method);
            return 0;
        }
        open.add(method);
        int most = 0;
        for (Element called : calls.get(method)) {
            most = isOwn(called) ? Math.max(most, depth(called, open)) : most;
        }
        open.remove(open.size() - 1);
        return most + 1;
    }

    private int deepest() {
        int most = 0;
        for (Element method : calls.keySet()) {
            int depth = depth(method, new ArrayList<>());
            due(depth <= DEEPEST, "11: calls " + depth + " deep from " + method);
            most = Math.max(most, depth);
        }
        return most;
    }

    /** Whether this test sees it: loops with an end and without one, in a text that is no part of the class. */
    private static void sees(JavaCompiler compiler, StandardJavaFileManager files) throws Exception {
        Path directory = Files.createTempDirectory("tree");
        Path file = directory.resolve("Seen.java");
        Files.writeString(file, "class Seen { void a(int n) { while (n > 0 || n < 9) { n++; } "
            + "for (int i = 0; n > 0 && i < 9; i++) { } for (int i = 0; n < 9; i++) { } for (;;) { n++; } } }");
        JavacTask task = (JavacTask) compiler.getTask(null, files, null, null, null,
            files.getJavaFileObjects(file));
        List<Boolean> seen = new ArrayList<>();
        for (CompilationUnitTree unit : task.parse()) {
            MethodTree method = (MethodTree) ((ClassTree) unit.getTypeDecls().get(0)).getMembers().get(0);
            for (StatementTree loop : method.getBody().getStatements()) {
                seen.add(hasEnd(loop instanceof ForLoopTree ? ((ForLoopTree) loop).getCondition()
                    : ((WhileLoopTree) loop).getCondition(), loop));
            }
        }
        due(seen.equals(List.of(false, true, false, false)), "this test does not see loops without an end: " + seen);
        Files.delete(file);
        Files.delete(directory);
    }

    public static void main(String[] args) throws Exception {
        Path path = Path.of(args.length > 0 ? args[0] : "src/main/java/HeavyFiles.java");
        JavaCompiler compiler = ToolProvider.getSystemJavaCompiler();
        LanguageTreeTest test = new LanguageTreeTest();
        try (StandardJavaFileManager files = compiler.getStandardFileManager(null, null, null)) {
            JavacTask task = (JavacTask) compiler.getTask(null, files, null, null, null,
                files.getJavaFileObjects(path));
            Iterable<? extends CompilationUnitTree> units = task.parse();
            task.analyze();
            for (CompilationUnitTree unit : units) {
                test.new Reader(Trees.instance(task), unit).scan(unit, null);
            }
            sees(compiler, files);
        }
        int deepest = test.deepest();
        due(loops > 0 && test.calls.size() > 46 && deepest > 1, "nothing was read");
        System.out.println(test.calls.size() + " methods, " + loops + " loops, calls " + deepest + " deep, "
            + wrong + " places outside of LANGUAGE.md");
        if (wrong != 0) {
            System.exit(1);
        }
    }
}
