import com.sun.source.tree.ArrayAccessTree;
import com.sun.source.tree.AssignmentTree;
import com.sun.source.tree.ClassTree;
import com.sun.source.tree.CompilationUnitTree;
import com.sun.source.tree.CompoundAssignmentTree;
import com.sun.source.tree.ExpressionTree;
import com.sun.source.tree.ForLoopTree;
import com.sun.source.tree.IdentifierTree;
import com.sun.source.tree.MemberSelectTree;
import com.sun.source.tree.MethodInvocationTree;
import com.sun.source.tree.MethodTree;
import com.sun.source.tree.NewArrayTree;
import com.sun.source.tree.NewClassTree;
import com.sun.source.tree.Tree;
import com.sun.source.tree.UnaryTree;
import com.sun.source.tree.VariableTree;
import com.sun.source.util.JavacTask;
import com.sun.source.util.SourcePositions;
import com.sun.source.util.TreeScanner;
import com.sun.source.util.Trees;
import java.io.IOException;
import java.io.StringWriter;
import java.nio.file.Path;
import java.util.List;
import java.util.Map;
import java.util.Set;
import java.util.TreeMap;
import java.util.TreeSet;
import javax.lang.model.element.Modifier;
import javax.tools.JavaCompiler;
import javax.tools.StandardJavaFileManager;
import javax.tools.ToolProvider;

/** What stands in a Java file, gathered for the rules of LANGUAGE.md. */
final class SourceTree extends TreeScanner<Void, Void> {
    static final String MADE = "new ";

    final Set<Tree.Kind> kinds = new TreeSet<>();
    final Set<String> classes = new TreeSet<>();
    final Set<String> types = new TreeSet<>();
    final Set<String> methods = new TreeSet<>();
    final Set<String> staticRows = new TreeSet<>();
    final Set<String> changedRows = new TreeSet<>();
    final Set<String> unboundedLoops = new TreeSet<>();
    final Set<String> madeInCalls = new TreeSet<>();
    final Map<String, Long> lengths = new TreeMap<>();
    /** What each method calls, by name; "new X" is the making of an X. Methods of one name count as one. */
    final Map<String, Set<String>> calls = new TreeMap<>();

    private final CompilationUnitTree unit;
    private final SourcePositions positions;
    private String method = "";

    SourceTree(Path file) throws IOException {
        JavaCompiler compiler = ToolProvider.getSystemJavaCompiler();
        try (StandardJavaFileManager files = compiler.getStandardFileManager(null, null, null)) {
            JavacTask task = (JavacTask) compiler.getTask(
                    new StringWriter(), files, null, List.of(), null, files.getJavaFileObjects(file));
            unit = task.parse().iterator().next();
            positions = Trees.instance(task).getSourcePositions();
            scan(unit, null);
        }
    }

    @Override
    public Void scan(Tree tree, Void none) {
        if (tree != null) {
            kinds.add(tree.getKind());
        }
        return super.scan(tree, none);
    }

    @Override
    public Void visitClass(ClassTree tree, Void none) {
        classes.add(tree.getSimpleName().toString());
        String outer = method;
        method = MADE + tree.getSimpleName();
        super.visitClass(tree, none);
        method = outer;
        return null;
    }

    @Override
    public Void visitMethod(MethodTree tree, Void none) {
        String outer = method;
        if (tree.getReturnType() != null) {
            method = tree.getName().toString();
            methods.add(method);
            types.add(tree.getReturnType().toString());
        }
        long firstRow = rowOf(positions.getStartPosition(unit, tree));
        long lastRow = rowOf(positions.getEndPosition(unit, tree));
        lengths.merge(method, lastRow - firstRow + 1, Math::max);
        super.visitMethod(tree, none);
        method = outer;
        return null;
    }

    private long rowOf(long position) {
        return unit.getLineMap().getLineNumber(position);
    }

    @Override
    public Void visitVariable(VariableTree tree, Void none) {
        types.add(tree.getType().toString());
        boolean isStatic = tree.getModifiers().getFlags().contains(Modifier.STATIC);
        if (isStatic && tree.getType().getKind() == Tree.Kind.ARRAY_TYPE) {
            staticRows.add(tree.getName().toString());
        }
        return super.visitVariable(tree, none);
    }

    @Override
    public Void visitMethodInvocation(MethodInvocationTree tree, Void none) {
        ExpressionTree called = tree.getMethodSelect();
        if (called instanceof MemberSelectTree select) {
            boolean isLibrary = select.getExpression() instanceof IdentifierTree owner
                    && List.of("Math", "System", "Integer", "Long", "Arrays").contains(owner.getName().toString());
            addCall(isLibrary ? select.toString() : select.getIdentifier().toString());
        } else if (!called.toString().equals("super")) {
            addCall(called.toString());
        }
        return super.visitMethodInvocation(tree, none);
    }

    @Override
    public Void visitNewClass(NewClassTree tree, Void none) {
        addCall(MADE + tree.getIdentifier());
        noteMaking(tree);
        return super.visitNewClass(tree, none);
    }

    @Override
    public Void visitNewArray(NewArrayTree tree, Void none) {
        noteMaking(tree);
        return super.visitNewArray(tree, none);
    }

    private void noteMaking(Tree tree) {
        if (!method.startsWith(MADE)) {
            madeInCalls.add(method + ": " + tree);
        }
    }

    private void addCall(String name) {
        calls.computeIfAbsent(method, key -> new TreeSet<>()).add(name);
    }

    @Override
    public Void visitAssignment(AssignmentTree tree, Void none) {
        noteChange(tree.getVariable());
        return super.visitAssignment(tree, none);
    }

    @Override
    public Void visitCompoundAssignment(CompoundAssignmentTree tree, Void none) {
        noteChange(tree.getVariable());
        return super.visitCompoundAssignment(tree, none);
    }

    @Override
    public Void visitUnary(UnaryTree tree, Void none) {
        if (tree.getKind() != Tree.Kind.UNARY_MINUS && tree.getKind() != Tree.Kind.LOGICAL_COMPLEMENT) {
            noteChange(tree.getExpression());
        }
        return super.visitUnary(tree, none);
    }

    private void noteChange(ExpressionTree changed) {
        if (changed instanceof ArrayAccessTree access) {
            String row = access.getExpression().toString();
            changedRows.add(row.substring(row.lastIndexOf('.') + 1));
        }
    }

    @Override
    public Void visitForLoop(ForLoopTree tree, Void none) {
        if (tree.getCondition() == null) {
            unboundedLoops.add(method);
        }
        return super.visitForLoop(tree, none);
    }
}
