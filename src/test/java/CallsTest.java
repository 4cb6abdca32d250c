import com.sun.source.tree.AssignmentTree;
import com.sun.source.tree.BinaryTree;
import com.sun.source.tree.ClassTree;
import com.sun.source.tree.CompilationUnitTree;
import com.sun.source.tree.ExpressionTree;
import com.sun.source.tree.IdentifierTree;
import com.sun.source.tree.LiteralTree;
import com.sun.source.tree.MethodInvocationTree;
import com.sun.source.tree.MethodTree;
import com.sun.source.tree.NewArrayTree;
import com.sun.source.tree.NewClassTree;
import com.sun.source.tree.Tree;
import com.sun.source.util.JavacTask;
import com.sun.source.util.TreePath;
import com.sun.source.util.TreePathScanner;
import com.sun.source.util.Trees;
import java.io.IOException;
import java.nio.file.Path;
import java.util.ArrayDeque;
import java.util.Deque;
import java.util.HashMap;
import java.util.List;
import java.util.Map;
import java.util.Set;
import java.util.TreeSet;
import javax.lang.model.element.Element;
import javax.tools.JavaCompiler;
import javax.tools.StandardJavaFileManager;
import javax.tools.ToolProvider;

/**
 * Those rules of ../shared/LANGUAGE.md that are seen from the calls of the class: how deep they go (8, 11), what they may
 * divide by (7), and where objects are made (12).
 */
public final class CallsTest {
    private static final Path SOURCE = Path.of("src/main/java/CoflowSimulator.java");
    private static final int MOST_DEEP = 8;
    /** Divisors that are looked at before: in roundedUp and in isEnough. */
    private static final Set<String> TESTED_DIVISORS = Set.of("roundedUp: divisor", "isEnough: ticks");

    /** For each method, as a class and its name, what it calls; a call of the library is a leaf. */
    private final Map<String, Set<String>> calls = new HashMap<>();
    private final Map<String, Integer> depths = new HashMap<>();
    private final Deque<String> open = new ArrayDeque<>();
    private int wrong = 0;

    public static void main(String[] args) throws IOException {
        CallsTest test = new CallsTest();
        test.readSource();
        test.lookAtDepths();
        System.out.println(test.calls.size() + " methods, " + test.wrong + " faults");
        if (test.wrong > 0 || test.calls.size() < 80) {
            System.exit(1);
        }
    }

    private void fault(String what) {
        wrong++;
        System.out.println("broken: " + what);
    }

    private void readSource() throws IOException {
        JavaCompiler compiler = ToolProvider.getSystemJavaCompiler();
        try (StandardJavaFileManager files = compiler.getStandardFileManager(null, null, null)) {
            JavacTask task = (JavacTask) compiler.getTask(null, files, null, List.of("-proc:none", "--release", "17"), null,
                    files.getJavaFileObjects(SOURCE));
            Iterable<? extends CompilationUnitTree> units = task.parse();
            task.analyze();
            for (CompilationUnitTree unit : units) {
                new Reader(Trees.instance(task)).scan(unit, null);
            }
        }
    }

    private final class Reader extends TreePathScanner<Void, Void> {
        private final Trees trees;

        Reader(Trees trees) {
            this.trees = trees;
        }

        private TreePath enclosing(Tree.Kind... kinds) {
            TreePath path = getCurrentPath();
            while (path != null && !List.of(kinds).contains(path.getLeaf().getKind())) {
                path = path.getParentPath();
            }
            return path;
        }

        private String nameOf(Element method) {
            return method.getEnclosingElement().getSimpleName() + "." + method;
        }

        private void note(Tree call) {
            TreePath caller = enclosing(Tree.Kind.METHOD);
            Element callee = trees.getElement(new TreePath(getCurrentPath(), call));
            if (caller != null && callee != null) {
                calls.get(nameOf(trees.getElement(caller))).add(nameOf(callee));
            }
        }

        @Override
        public Void visitMethod(MethodTree method, Void none) {
            calls.putIfAbsent(nameOf(trees.getElement(getCurrentPath())), new TreeSet<>());
            return super.visitMethod(method, none);
        }

        @Override
        public Void visitMethodInvocation(MethodInvocationTree call, Void none) {
            if (!call.toString().equals("super()")) {
                note(call);
            }
            return super.visitMethodInvocation(call, none);
        }

        private boolean inConstructor() {
            TreePath method = enclosing(Tree.Kind.METHOD);
            return method != null && ((MethodTree) method.getLeaf()).getName().contentEquals("<init>");
        }

        @Override
        public Void visitNewClass(NewClassTree made, Void none) {
            note(made);
            if (!inConstructor()) {
                fault("rule 12: " + made + " stands outside a constructor");
            }
            return super.visitNewClass(made, none);
        }

        @Override
        public Void visitNewArray(NewArrayTree made, Void none) {
            boolean constant = enclosing(Tree.Kind.METHOD) == null;
            if (!constant && !inConstructor()) {
                fault("rule 12: " + made + " stands outside a constructor");
            }
            for (ExpressionTree length : made.getDimensions()) {
                if (!(length instanceof IdentifierTree) || !length.toString().matches("[A-Z_]+")) {
                    fault("rule 7: the length " + length + " is not a constant");
                }
            }
            return super.visitNewArray(made, none);
        }

        @Override
        public Void visitBinary(BinaryTree operation, Void none) {
            if (operation.getKind() == Tree.Kind.DIVIDE || operation.getKind() == Tree.Kind.REMAINDER) {
                String method = ((MethodTree) enclosing(Tree.Kind.METHOD).getLeaf()).getName().toString();
                ExpressionTree divisor = operation.getRightOperand();
                boolean constant = divisor instanceof LiteralTree || divisor.toString().matches("[A-Z_]+");
                if (!constant && !TESTED_DIVISORS.contains(method + ": " + divisor)) {
                    fault("rule 7: " + operation + " in " + method + " divides by what nothing has looked at");
                }
            }
            return super.visitBinary(operation, none);
        }

        @Override
        public Void visitAssignment(AssignmentTree assignment, Void none) {
            if (assignment.getExpression() instanceof AssignmentTree) {
                fault("plain code: " + assignment + " assigns twice");
            }
            return super.visitAssignment(assignment, none);
        }

        @Override
        public Void visitClass(ClassTree inside, Void none) {
            if (inside.getSimpleName().length() == 0) {
                fault("rule 2: an anonymous class");
            }
            return super.visitClass(inside, none);
        }
    }

    private void lookAtDepths() {
        for (String method : calls.keySet()) {
            int depth = depthOf(method);
            if (depth > MOST_DEEP) {
                fault("rule 11: the calls of " + method + " go " + depth + " deep");
            }
        }
    }

    /** How many calls stand open at once, with this one and those of the library. */
    private int depthOf(String method) {
        Integer known = depths.get(method);
        if (known != null) {
            return known;
        }
        if (open.contains(method)) {
            fault("rule 8: " + method + " calls itself by " + open);
            return 0;
        }
        open.push(method);
        int deepest = 0;
        for (String callee : calls.getOrDefault(method, Set.of())) {
            deepest = Math.max(deepest, depthOf(callee));
        }
        open.pop();
        depths.put(method, deepest + 1);
        return deepest + 1;
    }
}
