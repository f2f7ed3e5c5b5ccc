import com.sun.source.tree.*;
import com.sun.source.tree.Tree.Kind;
import com.sun.source.util.JavacTask;
import com.sun.source.util.TreeScanner;
import com.sun.source.util.Trees;
import java.io.IOException;
import java.nio.file.Path;
import java.util.*;
import javax.lang.model.element.Modifier;
import javax.lang.model.type.TypeKind;
import javax.tools.JavaCompiler;
import javax.tools.StandardJavaFileManager;
import javax.tools.ToolProvider;

/**
 * The rules of LANGUAGE.md that the source shows; those that the compiled class shows are in FaceTest.
 * Where a rule leaves several ways, the test holds the class to the one it uses: arrays are made in the
 * fields' initialisers, loops are counting for-loops. Started in the directory of the project.
 */
public final class LanguageTest {
    private static final Checks CHECKS = new Checks();
    private static final Path SOURCE = Path.of("src", "main", "java", "SlotMarket.java");
    private static final Set<Kind> TYPE_DECLARATIONS = Set.of(
        Kind.CLASS, Kind.INTERFACE, Kind.ENUM, Kind.RECORD, Kind.ANNOTATION_TYPE);
    private static final Set<Kind> LIBRARY = Set.of(Kind.IMPORT, Kind.PACKAGE, Kind.NEW_CLASS);
    private static final Set<Kind> NO_NUMBERS = Set.of(Kind.STRING_LITERAL, Kind.FLOAT_LITERAL, Kind.DOUBLE_LITERAL);
    private static final Set<Kind> FORBIDDEN = Set.of(
        Kind.THROW, Kind.TRY, Kind.CATCH, Kind.SYNCHRONIZED, Kind.ASSERT, Kind.INSTANCE_OF,
        Kind.LAMBDA_EXPRESSION, Kind.MEMBER_REFERENCE);

    private final CompilationUnitTree unit;
    private final Trees positions;
    private final List<Tree> all;
    private final Map<String, MethodTree> methods = new HashMap<>();
    private final Map<String, VariableTree> fields = new HashMap<>();

    public static void main(String[] args) throws IOException {
        JavaCompiler compiler = ToolProvider.getSystemJavaCompiler();
        try (StandardJavaFileManager files = compiler.getStandardFileManager(null, null, null)) {
            JavacTask task = (JavacTask) compiler.getTask(
                null, files, null, null, null, files.getJavaFileObjects(SOURCE));
            new LanguageTest(task.parse().iterator().next(), Trees.instance(task)).allRules();
        }
        CHECKS.finish();
    }

    private LanguageTest(CompilationUnitTree unit, Trees positions) {
        this.unit = unit;
        this.positions = positions;
        all = within(unit);
        for (Tree member : market().getMembers()) {
            if (member instanceof MethodTree method) {
                // Two methods of one name would hide each other from the rules about calls.
                MethodTree other = methods.put(method.getName().toString(), method);
                CHECKS.due(method.getName() + ": one method of that name", other == null, true);
            }
            if (member instanceof VariableTree field) {
                fields.put(field.getName().toString(), field);
            }
        }
    }

    private void allRules() {
        oneClass();
        numbersAlone();
        noLibrary();
        arraysAreMadeOnce();
        arraysAreNotReplaced();
        staticsAreConstants();
        nothingForbidden();
        noRecursion();
        loopsEnd();
        noCallInArguments();
        methodsAreShort();
        callsAreShallow();
        fieldsAreFew();
    }

    private void oneClass() {
        CHECKS.says("LANGUAGE.md, rule 1", "No nested class, interface, enum or record.");
        CHECKS.due("types in the file", all.stream().filter(t -> TYPE_DECLARATIONS.contains(t.getKind())).count(), 1);
    }

    private void numbersAlone() {
        CHECKS.says("LANGUAGE.md, rule 2", "one-dimensional arrays of these. No float or double. No String");
        for (Tree tree : all) {
            if (tree instanceof VariableTree variable) {
                due(variable, "type", isNumberOrArray(variable.getType()));
            }
            refuse(tree, NO_NUMBERS);
        }
    }

    private static boolean isNumberOrArray(Tree type) {
        return isNumber(type) || type instanceof ArrayTypeTree array && isNumber(array.getType());
    }

    private static boolean isNumber(Tree type) {
        return type instanceof PrimitiveTypeTree number
            && number.getPrimitiveTypeKind() != TypeKind.FLOAT
            && number.getPrimitiveTypeKind() != TypeKind.DOUBLE;
    }

    private void noLibrary() {
        CHECKS.says("LANGUAGE.md, rule 3", "nothing is imported; none of Object's methods is called.");
        for (Tree tree : all) {
            refuse(tree, LIBRARY);
            if (tree instanceof MethodInvocationTree call) {
                due(call, "a method of the class", methods.containsKey(call.getMethodSelect().toString()));
            }
            if (tree instanceof MemberSelectTree select) {
                due(select, "a field of the object", select.getExpression().toString().equals("this"));
            }
        }
    }

    private void arraysAreMadeOnce() {
        CHECKS.says("LANGUAGE.md, rule 4", "that is a literal or a constant.");
        Set<Tree> initialisers = new HashSet<>();
        for (VariableTree field : fields.values()) {
            initialisers.add(field.getInitializer());
        }
        for (Tree tree : all) {
            if (tree instanceof NewArrayTree array) {
                due(array, "made in a field's initialiser", initialisers.contains(array));
                boolean oneLength = array.getInitializers() == null && array.getDimensions().size() == 1;
                due(array, "a length that is a constant", oneLength && isConstant(array.getDimensions().get(0)));
            }
        }
    }

    private void arraysAreNotReplaced() {
        CHECKS.says("LANGUAGE.md, rule 4", "(null isn't used at all), and no method assigns to an array field;");
        for (VariableTree field : fields.values()) {
            if (field.getType() instanceof ArrayTypeTree) {
                due(field, "final", field.getModifiers().getFlags().contains(Modifier.FINAL));
            }
        }
        for (Tree tree : all) {
            refuse(tree, Set.of(Kind.NULL_LITERAL));
        }
    }

    private void staticsAreConstants() {
        CHECKS.says("LANGUAGE.md, rule 5", "Static fields are compile-time constants of int or long alone.");
        for (VariableTree field : fields.values()) {
            if (field.getModifiers().getFlags().contains(Modifier.STATIC)) {
                due(field, "a constant", isConstantField(field));
            }
        }
        CHECKS.says("LANGUAGE.md, rule 5", "No static array, no static initialiser.");
        for (Tree member : market().getMembers()) {
            due(member, "a method or a field", !(member instanceof BlockTree));
        }
    }

    private void nothingForbidden() {
        CHECKS.says("LANGUAGE.md, rule 6", "No throw, try, catch, synchronized, assert, instanceof, lambda");
        for (Tree tree : all) {
            refuse(tree, FORBIDDEN);
            if (tree instanceof TypeCastTree cast) {
                due(cast, "a cast between numbers", cast.getType() instanceof PrimitiveTypeTree);
            }
        }
    }

    private void noRecursion() {
        CHECKS.says("LANGUAGE.md, rule 8", "No recursion, neither direct nor through other methods.");
        for (String name : methods.keySet()) {
            CHECKS.due(name + " ends", depth(name, Set.of()) < methods.size() + 1, true);
        }
    }

    private void loopsEnd() {
        CHECKS.says("LANGUAGE.md, rule 8", "Every loop has an end that can be seen from its own lines (a counter against a bound).");
        for (Tree tree : all) {
            boolean other = tree instanceof WhileLoopTree
                || tree instanceof DoWhileLoopTree
                || tree instanceof EnhancedForLoopTree;
            if (other || tree instanceof ForLoopTree) {
                due(tree, "a counter against a bound", !other && countsToItsBound((ForLoopTree) tree));
            }
        }
    }

    /** for (int i = ..; i < bound; i++), in which neither i nor the bound is given another value. */
    private boolean countsToItsBound(ForLoopTree loop) {
        if (loop.getInitializer().size() != 1 || loop.getUpdate().size() != 1) {
            return false;
        }
        if (!(loop.getInitializer().get(0) instanceof VariableTree counter)
            || !(loop.getCondition() instanceof BinaryTree condition)) {
            return false;
        }
        String name = counter.getName().toString();
        Set<String> changed = changedIn(loop.getStatement());
        return condition.getLeftOperand().toString().equals(name)
            && isBound(condition, changed)
            && isStep(loop.getUpdate().get(0), name)
            && !changed.contains(name);
    }

    /** With <= the counter would never pass the greatest int, so there only a constant will do. */
    private boolean isBound(BinaryTree condition, Set<String> changed) {
        ExpressionTree bound = condition.getRightOperand();
        return switch (condition.getKind()) {
            case LESS_THAN -> isConstant(bound) || isKept(bound, changed);
            case LESS_THAN_EQUAL -> isConstant(bound);
            default -> false;
        };
    }

    /** A variable of the method or a final field; any other field might be changed by a method called in the loop. */
    private boolean isKept(ExpressionTree bound, Set<String> changed) {
        VariableTree field = fields.get(bound.toString());
        boolean steady = field == null || field.getModifiers().getFlags().contains(Modifier.FINAL);
        return bound instanceof IdentifierTree && steady && !changed.contains(bound.toString());
    }

    private static boolean isStep(ExpressionStatementTree update, String name) {
        return update.getExpression() instanceof UnaryTree step
            && step.getKind() == Kind.POSTFIX_INCREMENT
            && step.getExpression().toString().equals(name);
    }

    private static Set<String> changedIn(Tree body) {
        Set<String> changed = new HashSet<>();
        for (Tree tree : within(body)) {
            if (tree instanceof AssignmentTree assignment) {
                changed.add(assignment.getVariable().toString());
            } else if (tree instanceof CompoundAssignmentTree assignment) {
                changed.add(assignment.getVariable().toString());
            } else if (tree instanceof UnaryTree step) {
                changed.add(step.getExpression().toString());
            }
        }
        return changed;
    }

    private void noCallInArguments() {
        CHECKS.says("LANGUAGE.md, rule 10", "no call stands inside the arguments of another call.");
        for (Tree tree : all) {
            if (tree instanceof MethodInvocationTree call) {
                for (ExpressionTree argument : call.getArguments()) {
                    due(call, "no call in its arguments", callsIn(argument).isEmpty());
                }
            }
        }
    }

    private void methodsAreShort() {
        CHECKS.says("LANGUAGE.md, rule 10", "Methods stay short (some sixty lines)");
        for (MethodTree method : methods.values()) {
            CHECKS.due(method.getName() + " is short", lastLine(method) - firstLine(method) < 60, true);
        }
    }

    private void callsAreShallow() {
        CHECKS.says("LANGUAGE.md, rule 10", "calls go at most six deep");
        for (String name : methods.keySet()) {
            CHECKS.due(name + " goes at most six deep", depth(name, Set.of()) <= 6, true);
        }
    }

    private void fieldsAreFew() {
        CHECKS.says("LANGUAGE.md, rule 10", "the class has at most some forty fields beside its constants.");
        CHECKS.due("at most forty", fields.values().stream().filter(f -> !isConstantField(f)).count() <= 40, true);
    }

    /** How many methods stand on one another at most, from this one down; more than there are for a recursion. */
    private int depth(String name, Set<String> above) {
        if (!methods.containsKey(name)) {
            return 0;
        }
        if (above.contains(name)) {
            return methods.size() + 1;
        }
        Set<String> path = new HashSet<>(above);
        path.add(name);
        int deepest = 0;
        for (String called : callsIn(methods.get(name).getBody())) {
            deepest = Math.max(deepest, depth(called, path));
        }
        return 1 + deepest;
    }

    private static Set<String> callsIn(Tree tree) {
        Set<String> called = new HashSet<>();
        for (Tree part : within(tree)) {
            if (part instanceof MethodInvocationTree call) {
                called.add(call.getMethodSelect().toString());
            }
        }
        return called;
    }

    private boolean isConstant(ExpressionTree value) {
        if (value instanceof LiteralTree) {
            return true;
        }
        VariableTree field = fields.get(value.toString());
        return value instanceof IdentifierTree && field != null && isConstantField(field);
    }

    private static boolean isConstantField(VariableTree field) {
        return field.getModifiers().getFlags().containsAll(Set.of(Modifier.STATIC, Modifier.FINAL))
            && field.getInitializer() != null
            && callsIn(field.getInitializer()).isEmpty();
    }

    private ClassTree market() {
        return (ClassTree) unit.getTypeDecls().get(0);
    }

    private void refuse(Tree tree, Set<Kind> kinds) {
        due(tree, "allowed", !kinds.contains(tree.getKind()));
    }

    private void due(Tree tree, String what, boolean got) {
        String start = tree.toString().strip().lines().findFirst().orElse("");
        CHECKS.due("line " + firstLine(tree) + ", " + start + ": " + what, got, true);
    }

    private long firstLine(Tree tree) {
        return unit.getLineMap().getLineNumber(positions.getSourcePositions().getStartPosition(unit, tree));
    }

    private long lastLine(Tree tree) {
        return unit.getLineMap().getLineNumber(positions.getSourcePositions().getEndPosition(unit, tree));
    }

    private static List<Tree> within(Tree root) {
        List<Tree> found = new ArrayList<>();
        new TreeScanner<Void, Void>() {
            @Override
            public Void scan(Tree tree, Void unused) {
                if (tree != null) {
                    found.add(tree);
                }
                return super.scan(tree, unused);
            }
        }.scan(root, null);
        return found;
    }
}
