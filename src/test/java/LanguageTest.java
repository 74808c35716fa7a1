import com.sun.source.tree.AssertTree;
import com.sun.source.tree.BinaryTree;
import com.sun.source.tree.BlockTree;
import com.sun.source.tree.ClassTree;
import com.sun.source.tree.CompilationUnitTree;
import com.sun.source.tree.DoWhileLoopTree;
import com.sun.source.tree.ExpressionTree;
import com.sun.source.tree.ForLoopTree;
import com.sun.source.tree.IdentifierTree;
import com.sun.source.tree.ImportTree;
import com.sun.source.tree.LambdaExpressionTree;
import com.sun.source.tree.MemberReferenceTree;
import com.sun.source.tree.MemberSelectTree;
import com.sun.source.tree.MethodInvocationTree;
import com.sun.source.tree.MethodTree;
import com.sun.source.tree.NewArrayTree;
import com.sun.source.tree.NewClassTree;
import com.sun.source.tree.SynchronizedTree;
import com.sun.source.tree.ThrowTree;
import com.sun.source.tree.Tree;
import com.sun.source.tree.TryTree;
import com.sun.source.tree.VariableTree;
import com.sun.source.tree.WhileLoopTree;
import com.sun.source.util.JavacTask;
import com.sun.source.util.SourcePositions;
import com.sun.source.util.TreePathScanner;
import com.sun.source.util.TreeScanner;
import com.sun.source.util.Trees;
import java.io.IOException;
import java.nio.file.Path;
import java.util.HashMap;
import java.util.List;
import java.util.Map;
import java.util.Set;
import java.util.TreeSet;
import javax.lang.model.element.Modifier;
import javax.tools.JavaCompiler;
import javax.tools.StandardJavaFileManager;
import javax.tools.ToolProvider;

/**
 * The rules of LANGUAGE.md that can be seen in the source of the class. Rule 12 is held more strictly than it stands:
 * objects are made only where an object is made, so that no run of calls can fill the room.
 */
public final class LanguageTest {
    private static final Path SOURCE = Path.of("src/main/java/OutageScreen.java");
    private static final int MOST_PARAMETERS = 7, MOST_ROWS = 60, MOST_CLASSES = 12, MOST_FIELDS = 20, DEEPEST = 8;
    private static final Set<String> LIBRARY = Set.of("String", "StringBuilder", "Integer", "Long", "Math",
        "System", "List", "ArrayList", "Arrays", "Iterator", "Iterable", "Comparable");
    private static final Set<Tree.Kind> COMPARISONS = Set.of(Tree.Kind.LESS_THAN, Tree.Kind.LESS_THAN_EQUAL,
        Tree.Kind.GREATER_THAN, Tree.Kind.GREATER_THAN_EQUAL);

    private static int wrong = 0;

    public static void main(String[] args) throws IOException {
        JavaCompiler compiler = ToolProvider.getSystemJavaCompiler();
        try (StandardJavaFileManager files = compiler.getStandardFileManager(null, null, null)) {
            JavacTask task = (JavacTask) compiler.getTask(null, files, null, List.of("--release", "17"), null,
                files.getJavaFileObjects(SOURCE));
            CompilationUnitTree unit = task.parse().iterator().next();
            Rules rules = new Rules(unit, Trees.instance(task).getSourcePositions());
            rules.scan(unit, null);
            rules.finish();
        }
        System.out.println("LanguageTest: " + wrong + " wrong");
        if (wrong != 0) {
            System.exit(1);
        }
    }

    /** Goes through the source once; what needs the whole of it is looked at in finish(). */
    private static final class Rules extends TreePathScanner<Void, Void> {
        private final CompilationUnitTree unit;
        private final SourcePositions positions;
        private final Set<String> classes = new TreeSet<>();
        private final Set<String> typeNames = new TreeSet<>();
        // Methods of the same name count as one: a chain can only seem longer by that.
        private final Map<String, Set<String>> calls = new HashMap<>();
        private String method = "";

        Rules(CompilationUnitTree unit, SourcePositions positions) {
            this.unit = unit;
            this.positions = positions;
        }

        private long row(long position) {
            return unit.getLineMap().getLineNumber(position);
        }

        private void holds(int rule, Tree at, String what, boolean does) {
            if (!does) {
                wrong++;
                long row = row(positions.getStartPosition(unit, at));
                System.out.println("rule " + rule + ", line " + row + ": " + what);
            }
        }

        private Void refuse(int rule, Tree at, String what) {
            holds(rule, at, what, false);
            return null;
        }

        private Tree parent() {
            return getCurrentPath().getParentPath().getLeaf();
        }

        void finish() {
            holds(1, unit, "a package line", unit.getPackageName() == null);
            holds(1, unit, "more than one class outside", unit.getTypeDecls().size() == 1);
            holds(11, unit, classes.size() + " classes", classes.size() <= MOST_CLASSES);
            for (String name : typeNames) {
                holds(4, unit, "the name " + name, classes.contains(name) || LIBRARY.contains(name));
            }
            for (String name : calls.keySet()) {
                holds(11, unit, "calls of " + name + " go deeper than " + DEEPEST + ", or come back to it",
                    depth(name, 1) <= DEEPEST);
            }
        }

        private int depth(String name, int open) {
            int deepest = open;
            if (open <= DEEPEST) {
                for (String next : calls.getOrDefault(name, Set.of())) {
                    if (calls.containsKey(next)) {
                        deepest = Math.max(deepest, depth(next, open + 1));
                    }
                }
            }
            return deepest;
        }

        @Override
        public Void visitImport(ImportTree tree, Void none) {
            String name = tree.getQualifiedIdentifier().toString();
            holds(4, tree, "import of " + name, Set.of("java.util.ArrayList", "java.util.List", "java.util.Arrays",
                "java.util.Iterator").contains(name));
            return null;
        }

        @Override
        public Void visitClass(ClassTree tree, Void none) {
            Set<Modifier> flags = tree.getModifiers().getFlags();
            classes.add(tree.getSimpleName().toString());
            if (parent() instanceof ClassTree) {
                holds(2, tree, "a class that is not static", flags.contains(Modifier.STATIC));
            } else {
                holds(2, tree, "a class inside a method", parent() instanceof CompilationUnitTree);
            }
            int fields = 0;
            for (Tree member : tree.getMembers()) {
                if (member instanceof VariableTree) {
                    fields += field((VariableTree) member) ? 1 : 0;
                }
                holds(5, member, "an initialiser block", !(member instanceof BlockTree));
            }
            holds(11, tree, fields + " fields", fields <= MOST_FIELDS);
            return super.visitClass(tree, none);
        }

        // Whether it is a field of each object.
        private boolean field(VariableTree tree) {
            Set<Modifier> flags = tree.getModifiers().getFlags();
            boolean isStatic = flags.contains(Modifier.STATIC);
            holds(5, tree, "a static field that is not final", !isStatic || flags.contains(Modifier.FINAL));
            return !isStatic;
        }

        @Override
        public Void visitMethod(MethodTree tree, Void none) {
            String name = tree.getName().toString();
            long rows = row(positions.getEndPosition(unit, tree)) - row(positions.getStartPosition(unit, tree)) + 1;
            holds(11, tree, name + " has " + tree.getParameters().size() + " parameters",
                tree.getParameters().size() <= MOST_PARAMETERS);
            holds(11, tree, name + " has " + rows + " lines", rows <= MOST_ROWS);
            holds(6, tree, name + " names an exception", tree.getThrows().isEmpty());
            holds(6, tree, "a " + name + " of its own", !Set.of("equals", "hashCode", "toString").contains(name));
            method = name;
            // The names of constructors are all alike, and none is called by a method.
            if (!isConstructor()) {
                calls.computeIfAbsent(name, unused -> new TreeSet<>());
            }
            super.visitMethod(tree, none);
            method = "";
            return null;
        }

        private boolean isConstructor() {
            return method.equals("<init>");
        }

        private boolean isInMethod() {
            return !method.isEmpty() && !isConstructor();
        }

        @Override
        public Void visitMethodInvocation(MethodInvocationTree tree, Void none) {
            ExpressionTree called = tree.getMethodSelect();
            boolean isSelected = called instanceof MemberSelectTree;
            String name = isSelected ? ((MemberSelectTree) called).getIdentifier().toString() : called.toString();
            String owner = isSelected ? ((MemberSelectTree) called).getExpression().toString() : "";
            holds(4, tree, owner + "." + name, !name.endsWith("Exact")
                && (!owner.equals("System") || name.equals("arraycopy")));
            // A function of the library, or of a String, is no call of the method here that bears its name.
            if (isInMethod() && !LIBRARY.contains(owner)) {
                calls.get(method).add(name);
            }
            return super.visitMethodInvocation(tree, none);
        }

        // By custom a name in capitals alone is a constant, and one that only begins with a capital a type.
        @Override
        public Void visitIdentifier(IdentifierTree tree, Void none) {
            String name = tree.getName().toString();
            if (Character.isUpperCase(name.charAt(0)) && !name.equals(name.toUpperCase())) {
                typeNames.add(name);
            }
            return super.visitIdentifier(tree, none);
        }

        @Override
        public Void visitNewClass(NewClassTree tree, Void none) {
            holds(2, tree, "a class without a name", tree.getClassBody() == null);
            holds(12, tree, "an object made in " + method, !isInMethod());
            return super.visitNewClass(tree, none);
        }

        @Override
        public Void visitNewArray(NewArrayTree tree, Void none) {
            holds(12, tree, "an array made in " + method, !isInMethod());
            return super.visitNewArray(tree, none);
        }

        @Override
        public Void visitForLoop(ForLoopTree tree, Void none) {
            bounded(tree, tree.getCondition());
            return super.visitForLoop(tree, none);
        }

        @Override
        public Void visitWhileLoop(WhileLoopTree tree, Void none) {
            bounded(tree, tree.getCondition());
            return super.visitWhileLoop(tree, none);
        }

        @Override
        public Void visitDoWhileLoop(DoWhileLoopTree tree, Void none) {
            bounded(tree, tree.getCondition());
            return super.visitDoWhileLoop(tree, none);
        }

        // Only that a bound stands there; whether the counter reaches it is not seen here.
        private void bounded(Tree loop, Tree condition) {
            Boolean compares = condition == null ? null : new TreeScanner<Boolean, Void>() {
                @Override
                public Boolean visitBinary(BinaryTree tree, Void none) {
                    Boolean deeper = super.visitBinary(tree, none);
                    return COMPARISONS.contains(tree.getKind()) || Boolean.TRUE.equals(deeper);
                }

                @Override
                public Boolean reduce(Boolean one, Boolean other) {
                    return Boolean.TRUE.equals(one) || Boolean.TRUE.equals(other);
                }
            }.scan(condition, null);
            holds(9, loop, "a loop without a bound", Boolean.TRUE.equals(compares));
        }

        @Override
        public Void visitThrow(ThrowTree tree, Void none) {
            return refuse(6, tree, "throw");
        }

        @Override
        public Void visitTry(TryTree tree, Void none) {
            return refuse(6, tree, "try");
        }

        @Override
        public Void visitSynchronized(SynchronizedTree tree, Void none) {
            return refuse(6, tree, "synchronized");
        }

        @Override
        public Void visitAssert(AssertTree tree, Void none) {
            return refuse(6, tree, "assert");
        }

        @Override
        public Void visitLambdaExpression(LambdaExpressionTree tree, Void none) {
            return refuse(2, tree, "a lambda");
        }

        @Override
        public Void visitMemberReference(MemberReferenceTree tree, Void none) {
            return refuse(2, tree, "a method reference");
        }
    }
}
