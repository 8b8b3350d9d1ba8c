import com.sun.source.tree.ArrayAccessTree;
import com.sun.source.tree.AssignmentTree;
import com.sun.source.tree.BinaryTree;
import com.sun.source.tree.ClassTree;
import com.sun.source.tree.CompilationUnitTree;
import com.sun.source.tree.CompoundAssignmentTree;
import com.sun.source.tree.ExpressionTree;
import com.sun.source.tree.ForLoopTree;
import com.sun.source.tree.LineMap;
import com.sun.source.tree.MethodInvocationTree;
import com.sun.source.tree.MethodTree;
import com.sun.source.tree.NewArrayTree;
import com.sun.source.tree.NewClassTree;
import com.sun.source.tree.Tree;
import com.sun.source.tree.UnaryTree;
import com.sun.source.tree.VariableTree;
import com.sun.source.util.JavacTask;
import com.sun.source.util.SourcePositions;
import com.sun.source.util.TreePath;
import com.sun.source.util.TreePathScanner;
import com.sun.source.util.Trees;
import java.io.IOException;
import java.nio.file.Path;
import java.util.ArrayList;
import java.util.HashMap;
import java.util.HashSet;
import java.util.List;
import java.util.Map;
import java.util.Set;
import javax.lang.model.element.Element;
import javax.lang.model.element.ExecutableElement;
import javax.lang.model.element.Modifier;
import javax.lang.model.element.VariableElement;
import javax.tools.JavaCompiler;
import javax.tools.JavaFileObject;
import javax.tools.StandardJavaFileManager;
import javax.tools.ToolProvider;

/** The source keeps those rules of LANGUAGE.md that take the compiler's own look at it. */
public final class RulesTest extends TreePathScanner<Void, Void> {
    private static final Answers ANSWERS = new Answers();
    private static final Path SOURCE = Path.of("src", "main", "java", "BargeBallast.java");

    private static final int LINES_OF_A_METHOD = 60;
    private static final int PARAMETERS = 7;
    private static final int CALLS_DEEP = 8;
    private static final int FIELDS_OF_A_CLASS = 20;
    private static final int CLASSES = 12;

    private static final Set<String> TYPES = Set.of("int", "long", "short", "byte", "char",
            "boolean", "int[]", "char[]", "int[][]");
    private static final Set<String> LIBRARY = Set.of("java.lang.Math.abs(int)",
            "java.lang.Math.min(int,int)", "java.lang.Math.max(int,int)",
            "java.lang.System.arraycopy(java.lang.Object,int,java.lang.Object,int,int)");
    private static final Set<Tree.Kind> LEFT_OUT = Set.of(Tree.Kind.THROW, Tree.Kind.TRY,
            Tree.Kind.CATCH, Tree.Kind.SYNCHRONIZED, Tree.Kind.ASSERT, Tree.Kind.LAMBDA_EXPRESSION,
            Tree.Kind.MEMBER_REFERENCE, Tree.Kind.PACKAGE);
    /** Fine within bounds that this test does not look for, so it asks for a class without them. */
    private static final Set<Tree.Kind> NOT_NEEDED = Set.of(Tree.Kind.TYPE_CAST,
            Tree.Kind.INSTANCE_OF, Tree.Kind.IMPORT, Tree.Kind.ANNOTATION, Tree.Kind.WHILE_LOOP,
            Tree.Kind.DO_WHILE_LOOP, Tree.Kind.ENHANCED_FOR_LOOP, Tree.Kind.STRING_LITERAL);

    private final CompilationUnitTree unit;
    private final Trees trees;
    private final SourcePositions positions;
    private final LineMap lines;
    private final Map<ExecutableElement, Set<ExecutableElement>> calls = new HashMap<>();
    private int classes;
    private int methods;
    private int loops;

    private RulesTest(CompilationUnitTree unit, Trees trees) {
        this.unit = unit;
        this.trees = trees;
        positions = trees.getSourcePositions();
        lines = unit.getLineMap();
    }

    public static void main(String[] args) throws IOException {
        JavaCompiler compiler = ToolProvider.getSystemJavaCompiler();
        ANSWERS.isTrue("there is a compiler to ask", compiler != null);
        if (compiler != null) {
            look(compiler);
        }
        ANSWERS.end();
    }

    private static void look(JavaCompiler compiler) throws IOException {
        try (StandardJavaFileManager files = compiler.getStandardFileManager(null, null, null)) {
            Iterable<? extends JavaFileObject> sources = files.getJavaFileObjects(SOURCE);
            JavacTask task = (JavacTask) compiler.getTask(null, files, null, List.of("-proc:none"),
                    null, sources);
            for (CompilationUnitTree unit : task.parse()) {
                task.analyze();
                RulesTest test = new RulesTest(unit, Trees.instance(task));
                test.scan(unit, null);
                test.end();
            }
        }
    }

    private void end() {
        ANSWERS.isTrue(classes + " classes are at most " + CLASSES, classes <= CLASSES);
        ANSWERS.isTrue("methods and loops were seen", methods > 60 && loops > 10);
        for (ExecutableElement method : calls.keySet()) {
            int deep = depth(method, new ArrayList<>());
            ANSWERS.isTrue(method + " goes " + deep + " calls deep", deep <= CALLS_DEEP);
        }
    }

    /** How many calls stand open at once below a call of the method, this call among them. */
    private int depth(ExecutableElement method, List<ExecutableElement> open) {
        ANSWERS.isTrue(method + " does not call itself by " + open, !open.contains(method));
        if (open.contains(method)) {
            return CALLS_DEEP + 1;
        }
        open.add(method);
        int below = 0;
        for (ExecutableElement called : calls.getOrDefault(method, Set.of())) {
            below = Math.max(below, depth(called, open));
        }
        open.remove(open.size() - 1);
        return below + 1;
    }

    @Override
    public Void scan(Tree tree, Void nothing) {
        if (tree != null) {
            ANSWERS.isTrue(place(tree) + tree.getKind() + " is none that the rules leave out",
                    !LEFT_OUT.contains(tree.getKind()));
            ANSWERS.isTrue(place(tree) + tree.getKind() + " is none that the class does without",
                    !NOT_NEEDED.contains(tree.getKind()));
        }
        return super.scan(tree, nothing);
    }

    @Override
    public Void visitClass(ClassTree tree, Void nothing) {
        classes++;
        boolean isOuter = getCurrentPath().getParentPath().getLeaf() == unit;
        Set<Modifier> modifiers = tree.getModifiers().getFlags();
        ANSWERS.isTrue(tree.getSimpleName() + " is the public class, or static and not public",
                isOuter == modifiers.contains(Modifier.PUBLIC)
                        && isOuter != modifiers.contains(Modifier.STATIC));
        int fields = 0;
        for (Tree member : tree.getMembers()) {
            ANSWERS.isTrue(place(member) + "is no initialiser block",
                    member.getKind() != Tree.Kind.BLOCK);
            if (member instanceof VariableTree field && !isStatic(field)) {
                fields++;
            }
        }
        ANSWERS.isTrue(tree.getSimpleName() + " has " + fields + " fields",
                fields <= FIELDS_OF_A_CLASS);
        return super.visitClass(tree, nothing);
    }

    @Override
    public Void visitVariable(VariableTree tree, Void nothing) {
        String type = String.valueOf(tree.getType());
        ANSWERS.isTrue(place(tree) + type + " is a type of the rules or an own class",
                TYPES.contains(type) || isOwn(element(tree.getType())));
        if (isStatic(tree)) {
            boolean isWrittenOut = tree.getInitializer() instanceof NewArrayTree array
                    && array.getInitializers() != null;
            ANSWERS.isTrue(place(tree) + "is a constant, or an array that is written out",
                    tree.getModifiers().getFlags().contains(Modifier.FINAL)
                            && (isWrittenOut || constant(tree) != null));
        }
        return super.visitVariable(tree, nothing);
    }

    @Override
    public Void visitMethod(MethodTree tree, Void nothing) {
        methods++;
        long length = line(positions.getEndPosition(unit, tree)) - line(start(tree)) + 1;
        ANSWERS.isTrue(tree.getName() + " has " + length + " lines", length <= LINES_OF_A_METHOD);
        ANSWERS.isTrue(tree.getName() + " has few parameters",
                tree.getParameters().size() <= PARAMETERS);
        if (element(tree) instanceof ExecutableElement method) {
            calls.computeIfAbsent(method, m -> Set.of());
        }
        return super.visitMethod(tree, nothing);
    }

    @Override
    public Void visitAssignment(AssignmentTree tree, Void nothing) {
        changed(tree.getVariable());
        return super.visitAssignment(tree, nothing);
    }

    @Override
    public Void visitCompoundAssignment(CompoundAssignmentTree tree, Void nothing) {
        changed(tree.getVariable());
        return super.visitCompoundAssignment(tree, nothing);
    }

    @Override
    public Void visitUnary(UnaryTree tree, Void nothing) {
        boolean isStep = tree.getKind() != Tree.Kind.UNARY_MINUS
                && tree.getKind() != Tree.Kind.UNARY_PLUS
                && tree.getKind() != Tree.Kind.BITWISE_COMPLEMENT
                && tree.getKind() != Tree.Kind.LOGICAL_COMPLEMENT;
        if (isStep) {
            changed(tree.getExpression());
        }
        return super.visitUnary(tree, nothing);
    }

    private void changed(ExpressionTree variable) {
        if (variable instanceof ArrayAccessTree access) {
            Element array = element(access.getExpression());
            ANSWERS.isTrue(place(variable) + array + " is no static array",
                    array != null && !array.getModifiers().contains(Modifier.STATIC));
        }
    }

    @Override
    public Void visitMethodInvocation(MethodInvocationTree tree, Void nothing) {
        called(element(tree), tree);
        return super.visitMethodInvocation(tree, nothing);
    }

    @Override
    public Void visitNewClass(NewClassTree tree, Void nothing) {
        ANSWERS.isTrue(place(tree) + "an own class is made, with no body of its own",
                isOwn(element(tree.getIdentifier())) && tree.getClassBody() == null);
        ANSWERS.isTrue(place(tree) + "no object is made in a loop", !isInLoop());
        called(element(tree), tree);
        return super.visitNewClass(tree, nothing);
    }

    @Override
    public Void visitNewArray(NewArrayTree tree, Void nothing) {
        ANSWERS.isTrue(place(tree) + "an array is made once, with its object or class",
                enclosingMethod() == null && !isInLoop());
        return super.visitNewArray(tree, nothing);
    }

    @Override
    public Void visitForLoop(ForLoopTree tree, Void nothing) {
        loops++;
        ANSWERS.isTrue(place(tree) + "the loop counts against a bound",
                tree.getInitializer().size() == 1 && tree.getUpdate().size() == 1
                        && isBounded(tree.getCondition()));
        return super.visitForLoop(tree, nothing);
    }

    private static boolean isBounded(ExpressionTree condition) {
        if (!(condition instanceof BinaryTree two)) {
            return false;
        }
        switch (two.getKind()) {
            case CONDITIONAL_AND: return isBounded(two.getLeftOperand());
            case LESS_THAN:
            case LESS_THAN_EQUAL:
            case GREATER_THAN:
            case GREATER_THAN_EQUAL: return true;
            default: return false;
        }
    }

    private void called(Element element, Tree tree) {
        if (!(element instanceof ExecutableElement method)) {
            ANSWERS.isTrue(place(tree) + "the call is known", false);
            return;
        }
        if (isOwn(method.getEnclosingElement())) {
            ExecutableElement caller = enclosingMethod();
            if (caller != null) {
                calls.merge(caller, Set.of(method), RulesTest::both);
            }
            return;
        }
        String name = method.getEnclosingElement() + "." + method;
        boolean isOfObject = name.equals("java.lang.Object.Object()");
        ANSWERS.isTrue(place(tree) + name + " is of the rules' library",
                isOfObject || LIBRARY.contains(name));
    }

    private static Set<ExecutableElement> both(Set<ExecutableElement> one,
            Set<ExecutableElement> other) {
        Set<ExecutableElement> all = new HashSet<>(one);
        all.addAll(other);
        return all;
    }

    private ExecutableElement enclosingMethod() {
        for (TreePath path = getCurrentPath(); path != null; path = path.getParentPath()) {
            if (path.getLeaf() instanceof MethodTree) {
                return (ExecutableElement) trees.getElement(path);
            }
        }
        return null;
    }

    private boolean isInLoop() {
        for (TreePath path = getCurrentPath(); path != null; path = path.getParentPath()) {
            if (path.getLeaf() instanceof ForLoopTree) {
                return true;
            }
        }
        return false;
    }

    private static boolean isStatic(VariableTree tree) {
        return tree.getModifiers().getFlags().contains(Modifier.STATIC);
    }

    private Object constant(VariableTree tree) {
        return element(tree) instanceof VariableElement field ? field.getConstantValue() : null;
    }

    private boolean isOwn(Element element) {
        return element != null && trees.getPath(element) != null
                && trees.getPath(element).getCompilationUnit() == unit;
    }

    private Element element(Tree tree) {
        return trees.getElement(TreePath.getPath(unit, tree));
    }

    private long start(Tree tree) {
        return positions.getStartPosition(unit, tree);
    }

    private long line(long position) {
        return position < 0 ? 0 : lines.getLineNumber(position);
    }

    private String place(Tree tree) {
        return "line " + line(start(tree)) + ": ";
    }
}
