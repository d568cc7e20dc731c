import com.sun.source.tree.ArrayAccessTree;
import com.sun.source.tree.ArrayTypeTree;
import com.sun.source.tree.AssignmentTree;
import com.sun.source.tree.BinaryTree;
import com.sun.source.tree.ClassTree;
import com.sun.source.tree.CompilationUnitTree;
import com.sun.source.tree.CompoundAssignmentTree;
import com.sun.source.tree.ExpressionTree;
import com.sun.source.tree.ForLoopTree;
import com.sun.source.tree.IdentifierTree;
import com.sun.source.tree.MethodInvocationTree;
import com.sun.source.tree.MethodTree;
import com.sun.source.tree.NewArrayTree;
import com.sun.source.tree.PrimitiveTypeTree;
import com.sun.source.tree.Tree;
import com.sun.source.tree.Tree.Kind;
import com.sun.source.tree.UnaryTree;
import com.sun.source.tree.VariableTree;
import com.sun.source.util.JavacTask;
import com.sun.source.util.TreeScanner;
import com.sun.source.util.Trees;
import java.net.URI;
import java.util.ArrayList;
import java.util.EnumSet;
import java.util.HashSet;
import java.util.LinkedHashMap;
import java.util.List;
import java.util.Map;
import java.util.Set;
import javax.lang.model.element.Modifier;
import javax.lang.model.type.TypeKind;
import javax.tools.DiagnosticCollector;
import javax.tools.JavaFileObject;
import javax.tools.SimpleJavaFileObject;
import javax.tools.ToolProvider;

/**
 * Tells where the text of a program leaves LANGUAGE.md. It is narrower than the
 * rules: it knows the forms that FlameTree uses and tells any other one. That
 * an index is always in range (rule 7) does not show in the text; the tests
 * that run the program look at it.
 */
final class Rules extends TreeScanner<Void, Void> {
    private static final Set<Kind> USED = EnumSet.of(
            Kind.COMPILATION_UNIT, Kind.CLASS, Kind.MODIFIERS, Kind.VARIABLE, Kind.METHOD,
            Kind.BLOCK, Kind.IF, Kind.FOR_LOOP, Kind.RETURN, Kind.EXPRESSION_STATEMENT,
            Kind.PRIMITIVE_TYPE, Kind.ARRAY_TYPE, Kind.NEW_ARRAY, Kind.ARRAY_ACCESS,
            Kind.IDENTIFIER, Kind.INT_LITERAL, Kind.BOOLEAN_LITERAL, Kind.METHOD_INVOCATION,
            Kind.ASSIGNMENT, Kind.PLUS_ASSIGNMENT, Kind.POSTFIX_INCREMENT, Kind.POSTFIX_DECREMENT,
            Kind.PLUS, Kind.MINUS, Kind.MULTIPLY, Kind.UNARY_MINUS,
            Kind.LESS_THAN, Kind.LESS_THAN_EQUAL, Kind.GREATER_THAN, Kind.GREATER_THAN_EQUAL,
            Kind.EQUAL_TO, Kind.NOT_EQUAL_TO, Kind.CONDITIONAL_AND, Kind.CONDITIONAL_OR,
            Kind.LOGICAL_COMPLEMENT, Kind.CONDITIONAL_EXPRESSION, Kind.PARENTHESIZED);
    private static final Set<Kind> CONSTANT = EnumSet.of(
            Kind.INT_LITERAL, Kind.IDENTIFIER, Kind.PLUS, Kind.MINUS, Kind.MULTIPLY,
            Kind.UNARY_MINUS, Kind.PARENTHESIZED);
    private static final Set<TypeKind> NUMBERS = EnumSet.of(TypeKind.INT, TypeKind.LONG,
            TypeKind.SHORT, TypeKind.BYTE, TypeKind.CHAR, TypeKind.BOOLEAN);

    private static final int MOST_PARAMETERS = 7;
    private static final int MOST_LINES = 60;
    private static final int MOST_FIELDS = 40;
    private static final int MOST_DEEP = 6;

    private final List<String> faults = new ArrayList<>();
    private final Map<String, MethodTree> methods = new LinkedHashMap<>();
    private final Map<String, VariableTree> fields = new LinkedHashMap<>();
    private final Set<String> names = new HashSet<>();
    private final String className;
    private CompilationUnitTree unit;
    private Trees trees;

    private Rules(String className) {
        this.className = className;
    }

    static List<String> faultsOf(String className, String text) throws Exception {
        Rules rules = new Rules(className);
        rules.read(text);
        return rules.faults;
    }

    private void read(String text) throws Exception {
        JavaFileObject file = new SimpleJavaFileObject(
                URI.create("string:///" + className + ".java"), JavaFileObject.Kind.SOURCE) {
            @Override
            public CharSequence getCharContent(boolean ignoreEncodingErrors) {
                return text;
            }
        };
        DiagnosticCollector<JavaFileObject> said = new DiagnosticCollector<>();
        JavacTask task = (JavacTask) ToolProvider.getSystemJavaCompiler()
                .getTask(null, null, said, null, null, List.of(file));
        // Parsed only: what the compiler adds by itself is not the program's text.
        unit = task.parse().iterator().next();
        trees = Trees.instance(task);
        said.getDiagnostics().forEach(d -> fault(0, d.toString()));
        oneClass();
    }

    private void fault(int rule, String what) {
        faults.add("rule " + rule + ": " + what);
    }

    private void holds(int rule, String what, boolean it) {
        if (!it) fault(rule, what);
    }

    private void oneClass() {
        holds(1, "a package line", unit.getPackage() == null);
        holds(3, "an import", unit.getImports().isEmpty());
        holds(1, "not one class", unit.getTypeDecls().size() == 1);
        if (!(unit.getTypeDecls().get(0) instanceof ClassTree it)) {
            fault(1, "no class");
            return;
        }
        holds(1, "not the class of the document", it.getSimpleName().contentEquals(className));
        holds(1, "not public and final alone", it.getModifiers().getFlags()
                .equals(EnumSet.of(Modifier.PUBLIC, Modifier.FINAL)));
        for (Tree member : it.getMembers()) {
            if (member instanceof VariableTree field) {
                fields.put(field.getName().toString(), field);
            } else if (member instanceof MethodTree method) {
                String name = method.getName().toString();
                holds(1, "two methods " + name, methods.put(name, method) == null);
            } else {
                fault(1, "a member that is " + member.getKind());
            }
        }
        collectNames(it);
        fields.values().forEach(this::oneField);
        methods.values().forEach(this::oneMethod);
        long variables = fields.values().stream().filter(f -> !isStatic(f)).count();
        holds(10, variables + " fields", variables <= MOST_FIELDS);
        scan(unit, null);
    }

    private void collectNames(ClassTree it) {
        names.addAll(methods.keySet());
        new TreeScanner<Void, Void>() {
            @Override
            public Void visitVariable(VariableTree variable, Void none) {
                names.add(variable.getName().toString());
                return super.visitVariable(variable, none);
            }
        }.scan(it, null);
    }

    private static boolean isStatic(VariableTree field) {
        return field.getModifiers().getFlags().contains(Modifier.STATIC);
    }

    private boolean isConstant(String name) {
        return fields.containsKey(name) && isStatic(fields.get(name));
    }

    private boolean isArray(String name) {
        return fields.containsKey(name) && fields.get(name).getType() instanceof ArrayTypeTree;
    }

    private static boolean isNumber(Tree type) {
        return type instanceof PrimitiveTypeTree it && NUMBERS.contains(it.getPrimitiveTypeKind());
    }

    private void oneField(VariableTree field) {
        String name = field.getName().toString();
        Set<Modifier> flags = field.getModifiers().getFlags();
        holds(1, "field " + name + " can be seen", flags.contains(Modifier.PRIVATE));
        if (isStatic(field)) {
            holds(5, name + " is not final", flags.contains(Modifier.FINAL));
            holds(5, name + " is no int or long", field.getType().toString().matches("int|long"));
            holds(5, name + " is no constant", isConstantValue(field.getInitializer()));
        } else if (isArray(name)) {
            holds(4, name + " can be assigned", flags.contains(Modifier.FINAL));
            holds(4, name + " has another length than a literal or a constant",
                    field.getInitializer() instanceof NewArrayTree made && isOfConstantLength(made));
        }
    }

    private boolean isConstantValue(ExpressionTree value) {
        boolean[] good = {value != null};
        new TreeScanner<Void, Void>() {
            @Override
            public Void scan(Tree tree, Void none) {
                if (tree != null && !CONSTANT.contains(tree.getKind())) good[0] = false;
                if (tree instanceof IdentifierTree id) good[0] &= isConstant(id.getName().toString());
                return super.scan(tree, none);
            }
        }.scan(value, null);
        return good[0];
    }

    private boolean isOfConstantLength(NewArrayTree made) {
        return made.getInitializers() == null && made.getDimensions().size() == 1
                && isConstantValue(made.getDimensions().get(0));
    }

    private void oneMethod(MethodTree method) {
        String name = method.getName().toString();
        holds(1, name + " is package-visible or protected", method.getModifiers().getFlags().stream()
                .anyMatch(f -> f == Modifier.PUBLIC || f == Modifier.PRIVATE));
        holds(4, name + " answers no number", name.equals("<init>") || isNumber(method.getReturnType()));
        holds(6, name + " throws", method.getThrows().isEmpty());
        holds(10, name + " has too many parameters", method.getParameters().size() <= MOST_PARAMETERS);
        long lines = line(trees.getSourcePositions().getEndPosition(unit, method))
                - line(trees.getSourcePositions().getStartPosition(unit, method)) + 1;
        holds(10, name + " has " + lines + " lines", lines <= MOST_LINES);
        goDown(name, new ArrayList<>());
    }

    private long line(long position) {
        return unit.getLineMap().getLineNumber(position);
    }

    private void goDown(String name, List<String> above) {
        if (above.contains(name)) {
            fault(8, "recursion of " + name);
            return;
        }
        List<String> chain = new ArrayList<>(above);
        chain.add(name);
        holds(10, "calls too deep: " + chain, chain.size() <= MOST_DEEP);
        for (String called : calledIn(methods.get(name))) goDown(called, chain);
    }

    private Set<String> calledIn(Tree tree) {
        Set<String> called = new HashSet<>();
        new TreeScanner<Void, Void>() {
            @Override
            public Void visitMethodInvocation(MethodInvocationTree call, Void none) {
                String name = call.getMethodSelect().toString();
                if (methods.containsKey(name)) called.add(name);
                return super.visitMethodInvocation(call, none);
            }
        }.scan(tree, null);
        return called;
    }

    // ---- every part of the text

    @Override
    public Void scan(Tree tree, Void none) {
        if (tree != null) holds(ruleOf(tree.getKind()), "a " + tree.getKind(), USED.contains(tree.getKind()));
        return super.scan(tree, none);
    }

    /** Rule 9 stands for a form that the rules leave and the program does not use. */
    private static int ruleOf(Kind kind) {
        return switch (kind) {
            case INTERFACE, ENUM, RECORD, ANNOTATION_TYPE -> 1;
            case STRING_LITERAL, FLOAT_LITERAL, DOUBLE_LITERAL, NEW_CLASS -> 2;
            case MEMBER_SELECT, ANNOTATION, PARAMETERIZED_TYPE -> 3;
            case NULL_LITERAL -> 4;
            case THROW, TRY, CATCH, SYNCHRONIZED, ASSERT, INSTANCE_OF, LAMBDA_EXPRESSION,
                    MEMBER_REFERENCE, TYPE_CAST -> 6;
            case DIVIDE, REMAINDER, DIVIDE_ASSIGNMENT, REMAINDER_ASSIGNMENT -> 7;
            case WHILE_LOOP, DO_WHILE_LOOP, ENHANCED_FOR_LOOP -> 8;
            default -> 9;
        };
    }

    @Override
    public Void visitVariable(VariableTree variable, Void none) {
        boolean array = fields.containsValue(variable) && isArray(variable.getName().toString());
        holds(2, variable + " is no number", array || isNumber(variable.getType()));
        return super.visitVariable(variable, none);
    }

    @Override
    public Void visitArrayType(ArrayTypeTree type, Void none) {
        holds(2, "an array of " + type.getType(), isNumber(type.getType()));
        return super.visitArrayType(type, none);
    }

    @Override
    public Void visitNewArray(NewArrayTree made, Void none) {
        holds(4, "an array made outside a field's initialiser",
                fields.values().stream().anyMatch(f -> f.getInitializer() == made));
        return super.visitNewArray(made, none);
    }

    /** An array is named only to reach into it, so it is never handed on, compared or assigned. */
    @Override
    public Void visitArrayAccess(ArrayAccessTree access, Void none) {
        if (access.getExpression() instanceof IdentifierTree id && isArray(id.getName().toString())) {
            return scan(access.getIndex(), none);
        }
        return super.visitArrayAccess(access, none);
    }

    @Override
    public Void visitIdentifier(IdentifierTree id, Void none) {
        String name = id.getName().toString();
        holds(3, name + " is of another class", names.contains(name));
        holds(4, name + " is named as a whole array", !isArray(name));
        return super.visitIdentifier(id, none);
    }

    @Override
    public Void visitMethodInvocation(MethodInvocationTree call, Void none) {
        String name = call.getMethodSelect().toString();
        holds(3, name + " is no method of the class", methods.containsKey(name));
        new TreeScanner<Void, Void>() {
            @Override
            public Void visitMethodInvocation(MethodInvocationTree inner, Void none) {
                fault(10, inner + " inside the arguments of " + name);
                return super.visitMethodInvocation(inner, none);
            }
        }.scan(call.getArguments(), null);
        return super.visitMethodInvocation(call, none);
    }

    @Override
    public Void visitForLoop(ForLoopTree loop, Void none) {
        holds(8, "no counter against a bound: " + loop, countsUpToItsBound(loop));
        return super.visitForLoop(loop, none);
    }

    private static boolean countsUpToItsBound(ForLoopTree loop) {
        if (loop.getInitializer().size() != 1 || loop.getUpdate().size() != 1
                || !(loop.getInitializer().get(0) instanceof VariableTree counter)
                || !(loop.getCondition() instanceof BinaryTree condition)) {
            return false;
        }
        String name = counter.getName().toString();
        Set<String> fixed = namesIn(condition.getRightOperand());
        boolean boundIsApart = fixed.add(name);
        fixed.retainAll(assignedIn(loop.getStatement()));
        return condition.getKind().name().startsWith("LESS_THAN")
                && condition.getLeftOperand().toString().equals(name)
                && loop.getUpdate().get(0).toString().equals(name + "++;")
                && boundIsApart && fixed.isEmpty();
    }

    private static Set<String> namesIn(Tree tree) {
        Set<String> found = new HashSet<>();
        new TreeScanner<Void, Void>() {
            @Override
            public Void visitIdentifier(IdentifierTree id, Void none) {
                found.add(id.getName().toString());
                return null;
            }
        }.scan(tree, null);
        return found;
    }

    private static Set<String> assignedIn(Tree tree) {
        Set<String> found = new HashSet<>();
        new TreeScanner<Void, Void>() {
            @Override
            public Void scan(Tree part, Void none) {
                if (part instanceof AssignmentTree it) found.add(targetOf(it.getVariable()));
                if (part instanceof CompoundAssignmentTree it) found.add(targetOf(it.getVariable()));
                if (part instanceof UnaryTree it) found.add(targetOf(it.getExpression()));
                return super.scan(part, none);
            }
        }.scan(tree, null);
        return found;
    }

    private static String targetOf(ExpressionTree left) {
        return left instanceof ArrayAccessTree access ? access.getExpression().toString() : left.toString();
    }
}
