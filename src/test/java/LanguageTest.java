import com.sun.source.tree.*;
import com.sun.source.util.JavacTask;
import com.sun.source.util.SourcePositions;
import com.sun.source.util.TreeScanner;
import com.sun.source.util.Trees;
import java.nio.file.Path;
import java.util.List;
import java.util.Map;
import java.util.Set;
import java.util.TreeMap;
import java.util.TreeSet;
import javax.lang.model.element.Modifier;
import javax.lang.model.type.TypeKind;
import javax.tools.JavaCompiler;
import javax.tools.StandardJavaFileManager;
import javax.tools.ToolProvider;

/** The rules of ../shared/LANGUAGE.md that can be read off the source. Run from the project's root. */
public final class LanguageTest extends TreeScanner<Void, Void> {
    private static final Path SOURCE = Path.of("src/main/java/CollectorSuite.java");
    private static final Set<Tree.Kind> FORBIDDEN = Set.of(
            Tree.Kind.THROW, Tree.Kind.TRY, Tree.Kind.CATCH, Tree.Kind.SYNCHRONIZED, Tree.Kind.ASSERT,
            Tree.Kind.INSTANCE_OF, Tree.Kind.LAMBDA_EXPRESSION, Tree.Kind.MEMBER_REFERENCE,
            Tree.Kind.IMPORT, Tree.Kind.PACKAGE, Tree.Kind.INTERFACE, Tree.Kind.ENUM,
            Tree.Kind.RECORD, Tree.Kind.ANNOTATION, Tree.Kind.NEW_CLASS, Tree.Kind.MEMBER_SELECT,
            Tree.Kind.NULL_LITERAL, Tree.Kind.STRING_LITERAL, Tree.Kind.FLOAT_LITERAL,
            Tree.Kind.DOUBLE_LITERAL, Tree.Kind.WHILE_LOOP, Tree.Kind.DO_WHILE_LOOP,
            Tree.Kind.ENHANCED_FOR_LOOP, Tree.Kind.TYPE_CAST,
            // Nothing needs a divisor, so none has to be looked at (rule 7).
            Tree.Kind.DIVIDE, Tree.Kind.REMAINDER, Tree.Kind.DIVIDE_ASSIGNMENT,
            Tree.Kind.REMAINDER_ASSIGNMENT);
    private static final Checks CHECKS = new Checks();

    private final Map<String, Set<String>> calls = new TreeMap<>();
    private final Set<String> constants = new TreeSet<>();
    private final Set<String> arrays = new TreeSet<>();
    private final CompilationUnitTree unit;
    private final SourcePositions positions;
    private int classes = 0;
    private int fields = 0;
    private boolean inFieldInitialiser = false;
    private boolean inArguments = false;
    private String method = "";

    private LanguageTest(CompilationUnitTree unit, SourcePositions positions) {
        this.unit = unit;
        this.positions = positions;
    }

    public static void main(String[] args) throws java.io.IOException {
        JavaCompiler compiler = ToolProvider.getSystemJavaCompiler();
        StandardJavaFileManager files = compiler.getStandardFileManager(null, null, null);
        JavacTask task = (JavacTask) compiler.getTask(null, files, null, List.of("--release", "17"),
                null, files.getJavaFileObjects(SOURCE));
        for (CompilationUnitTree unit : task.parse()) {
            LanguageTest test = new LanguageTest(unit, Trees.instance(task).getSourcePositions());
            test.scan(unit, null);
            test.wholeClass();
        }
        CHECKS.end();
    }

    private void wholeClass() {
        CHECKS.due("classes", classes, 1);
        CHECKS.due("at most forty fields, there are " + fields, fields <= 40, true);
        for (String name : calls.keySet()) {
            int depth = depth(name, new TreeSet<>());
            CHECKS.due(name + " calls at most six deep: " + depth, depth <= 6, true);
        }
    }

    private int depth(String name, Set<String> above) {
        if (!above.add(name)) {
            CHECKS.fault(name + " is recursive");
            return 100;
        }
        int deepest = 0;
        for (String called : calls.getOrDefault(name, Set.of())) {
            CHECKS.due(called + " is a method of the class", calls.containsKey(called), true);
            deepest = Math.max(deepest, depth(called, above));
        }
        above.remove(name);
        return deepest + 1;
    }

    private long line(long position) {
        return unit.getLineMap().getLineNumber(position);
    }

    private String where(Tree tree) {
        return "line " + line(positions.getStartPosition(unit, tree));
    }

    @Override
    public Void scan(Tree tree, Void none) {
        if (tree != null) {
            CHECKS.due(tree.getKind() + " in " + where(tree), FORBIDDEN.contains(tree.getKind()), false);
        }
        return super.scan(tree, none);
    }

    @Override
    public Void visitClass(ClassTree tree, Void none) {
        classes++;
        for (Tree member : tree.getMembers()) {
            if (member instanceof VariableTree variable && variable.getType() instanceof ArrayTypeTree) {
                arrays.add(variable.getName().toString());
            }
        }
        for (Tree member : tree.getMembers()) {
            if (member instanceof VariableTree variable) {
                field(variable);
            } else {
                scan(member, none);
            }
        }
        return null;
    }

    private void field(VariableTree tree) {
        boolean constant = tree.getModifiers().getFlags().contains(Modifier.STATIC);
        if (constant) {
            constants.add(tree.getName().toString());
            String type = tree.getType().toString();
            CHECKS.due(tree.getName() + " is a final int or long", (type.equals("int")
                    || type.equals("long")) && tree.getModifiers().getFlags().contains(Modifier.FINAL),
                    true);
        } else {
            fields++;
            CHECKS.due(tree.getName() + " is private",
                    tree.getModifiers().getFlags().contains(Modifier.PRIVATE), true);
            typeOfField(tree);
        }
        inFieldInitialiser = !constant;
        scan(tree, null);
        inFieldInitialiser = false;
    }

    private static void typeOfField(VariableTree tree) {
        if (tree.getType() instanceof ArrayTypeTree type) {
            CHECKS.due(tree.getName() + " has one dimension", isPlain(type.getType()), true);
            CHECKS.due(tree.getName() + " is made once and never assigned to",
                    tree.getInitializer() instanceof NewArrayTree
                    && tree.getModifiers().getFlags().contains(Modifier.FINAL), true);
        } else {
            CHECKS.due(tree.getName() + " is of a plain type", isPlain(tree.getType()), true);
        }
    }

    private static boolean isPlain(Tree type) {
        return type instanceof PrimitiveTypeTree;
    }

    // No local variable and no parameter of this class is an array, so arrays are never answered,
    // compared or changed for one another as long as each name stands before an index.
    @Override
    public Void visitVariable(VariableTree tree, Void none) {
        boolean isLocal = !inFieldInitialiser && !constants.contains(tree.getName().toString());
        CHECKS.due(tree.getName() + " is of a plain type, " + where(tree),
                !isLocal || isPlain(tree.getType()), true);
        return super.visitVariable(tree, none);
    }

    @Override
    public Void visitArrayAccess(ArrayAccessTree tree, Void none) {
        CHECKS.due("an array field stands before the index, " + where(tree),
                tree.getExpression() instanceof IdentifierTree, true);
        return scan(tree.getIndex(), none);
    }

    @Override
    public Void visitIdentifier(IdentifierTree tree, Void none) {
        CHECKS.due(tree.getName() + " is used without an index, " + where(tree),
                arrays.contains(tree.getName().toString()), false);
        return super.visitIdentifier(tree, none);
    }

    @Override
    public Void visitMethod(MethodTree tree, Void none) {
        method = tree.getName().toString();
        CHECKS.due(method + " is there once", calls.containsKey(method), false);
        calls.put(method, new TreeSet<>());
        long from = line(positions.getStartPosition(unit, tree));
        long lines = line(positions.getEndPosition(unit, tree)) - from + 1;
        CHECKS.due(method + " is short: " + lines, lines <= 60, true);
        CHECKS.due(method + " answers a plain type",
                tree.getReturnType() == null || isPlain(tree.getReturnType()), true);
        CHECKS.due(method + " takes at most seven", tree.getParameters().size() <= 7, true);
        return super.visitMethod(tree, none);
    }

    @Override
    public Void visitMethodInvocation(MethodInvocationTree tree, Void none) {
        String name = tree.getMethodSelect().toString();
        if (name.equals("super")) {
            return null;
        }
        CHECKS.due("call of " + name + " inside arguments, " + where(tree), inArguments, false);
        calls.get(method).add(name);
        inArguments = true;
        scan(tree.getArguments(), none);
        inArguments = false;
        return null;
    }

    @Override
    public Void visitNewArray(NewArrayTree tree, Void none) {
        CHECKS.due("array made in a field's initialiser, " + where(tree), inFieldInitialiser, true);
        CHECKS.due("one dimension, " + where(tree), tree.getDimensions().size(), 1);
        for (ExpressionTree length : tree.getDimensions()) {
            CHECKS.due("the length is a literal or a constant, " + where(tree),
                    length instanceof LiteralTree || constants.contains(length.toString()), true);
        }
        return super.visitNewArray(tree, none);
    }

    @Override
    public Void visitPrimitiveType(PrimitiveTypeTree tree, Void none) {
        TypeKind kind = tree.getPrimitiveTypeKind();
        CHECKS.due("type in " + where(tree), kind == TypeKind.FLOAT || kind == TypeKind.DOUBLE, false);
        return super.visitPrimitiveType(tree, none);
    }

    // The loops of this class all count up to a bound that stands first in their condition.
    @Override
    public Void visitForLoop(ForLoopTree tree, Void none) {
        String condition = String.valueOf(tree.getCondition());
        String counter = tree.getInitializer().size() == 1
                && tree.getInitializer().get(0) instanceof VariableTree variable
                ? variable.getName().toString() : "?";
        CHECKS.due("counter against a bound, " + where(tree), condition.startsWith(counter + " < "), true);
        String update = tree.getUpdate().toString();
        CHECKS.due("counts up, " + where(tree), update.contains(counter + "++"), true);
        return super.visitForLoop(tree, none);
    }
}
