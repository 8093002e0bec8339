import com.sun.source.tree.*;
import com.sun.source.util.JavacTask;
import com.sun.source.util.SourcePositions;
import com.sun.source.util.TreePath;
import com.sun.source.util.TreePathScanner;
import com.sun.source.util.Trees;
import java.io.IOException;
import java.net.URI;
import java.util.ArrayList;
import java.util.HashMap;
import java.util.HashSet;
import java.util.List;
import java.util.Map;
import java.util.Set;
import java.util.TreeMap;
import java.util.TreeSet;
import javax.lang.model.element.Modifier;
import javax.lang.model.type.TypeKind;
import javax.tools.DiagnosticCollector;
import javax.tools.JavaFileObject;
import javax.tools.SimpleJavaFileObject;
import javax.tools.ToolProvider;

/**
 * Looks for what LANGUAGE.md rules out in the text of a class. Where a rule leaves something that
 * is hard to look through (a while loop, a divisor that is not a number, a second name for an
 * array), this is stricter than the rule: the class does without it.
 */
final class Rules extends TreePathScanner<Void, Void> {
    private static final int MOST_PARAMETERS = 7;
    private static final int MOST_LINES = 60;
    private static final int MOST_DEPTH = 6;
    private static final int MOST_FIELDS = 40;

    private static final Set<TypeKind> NUMBER_TYPES =
        Set.of(TypeKind.INT, TypeKind.LONG, TypeKind.SHORT, TypeKind.BYTE, TypeKind.CHAR, TypeKind.BOOLEAN);
    private static final Set<Tree.Kind> ENDLESS_LOOPS =
        Set.of(Tree.Kind.WHILE_LOOP, Tree.Kind.DO_WHILE_LOOP, Tree.Kind.ENHANCED_FOR_LOOP);
    private static final Set<Tree.Kind> RULED_OUT_BY_6 = Set.of(
        Tree.Kind.THROW, Tree.Kind.TRY, Tree.Kind.SYNCHRONIZED, Tree.Kind.ASSERT, Tree.Kind.INSTANCE_OF,
        Tree.Kind.LAMBDA_EXPRESSION, Tree.Kind.MEMBER_REFERENCE);
    private static final Set<Tree.Kind> DIVISIONS = Set.of(
        Tree.Kind.DIVIDE, Tree.Kind.REMAINDER, Tree.Kind.DIVIDE_ASSIGNMENT, Tree.Kind.REMAINDER_ASSIGNMENT);
    private static final Set<Tree.Kind> COUNTING = Set.of(
        Tree.Kind.PREFIX_INCREMENT, Tree.Kind.PREFIX_DECREMENT, Tree.Kind.POSTFIX_INCREMENT, Tree.Kind.POSTFIX_DECREMENT);
    private static final Set<Tree.Kind> BEHIND_A_CONDITION = Set.of(
        Tree.Kind.IF, Tree.Kind.CONDITIONAL_EXPRESSION, Tree.Kind.SWITCH, Tree.Kind.SWITCH_EXPRESSION,
        Tree.Kind.FOR_LOOP, Tree.Kind.WHILE_LOOP, Tree.Kind.DO_WHILE_LOOP, Tree.Kind.ENHANCED_FOR_LOOP);

    private final Set<String> broken = new TreeSet<>();
    private final Set<String> methods = new HashSet<>();
    private final Set<String> publicMethods = new HashSet<>();
    private final Set<String> constants = new HashSet<>();
    private final Set<String> arrays = new HashSet<>();
    private final Map<String, Set<String>> calls = new TreeMap<>();
    private final SourcePositions positions;
    private final CompilationUnitTree unit;

    private Rules(SourcePositions positions, CompilationUnitTree unit) {
        this.positions = positions;
        this.unit = unit;
    }

    /** What is broken, each as "rule 8, line 30: .."; nothing if the text keeps to the rules. */
    static Set<String> brokenIn(String text) throws IOException {
        DiagnosticCollector<JavaFileObject> errors = new DiagnosticCollector<>();
        JavaFileObject file = new SimpleJavaFileObject(URI.create("string:///Text.java"), JavaFileObject.Kind.SOURCE) {
            @Override
            public CharSequence getCharContent(boolean ignoreEncodingErrors) {
                return text;
            }
        };
        JavacTask task = (JavacTask) ToolProvider.getSystemJavaCompiler()
            .getTask(null, null, errors, List.of(), null, List.of(file));
        CompilationUnitTree unit = task.parse().iterator().next();
        Rules rules = new Rules(Trees.instance(task).getSourcePositions(), unit);
        errors.getDiagnostics().forEach(error -> rules.broken.add("it can't be read: " + error));
        rules.lookAtAll();
        return rules.broken;
    }

    private void lookAtAll() {
        collectNames();
        scan(new TreePath(unit), null);
        lookAtCalls();
    }

    private int lineOf(long position) {
        return (int) unit.getLineMap().getLineNumber(position);
    }

    private int firstLineOf(Tree tree) {
        return lineOf(positions.getStartPosition(unit, tree));
    }

    private int lastLineOf(Tree tree) {
        return lineOf(positions.getEndPosition(unit, tree));
    }

    private void breaks(int rule, Tree where, String what) {
        broken.add("rule " + rule + ", line " + firstLineOf(where) + ": " + what);
    }

    private void breaksIf(boolean so, int rule, Tree where, String what) {
        if (so) {
            breaks(rule, where, what);
        }
    }

    // What is declared has to be known before it is looked at how it is used.

    private void collectNames() {
        new TreePathScanner<Void, Void>() {
            @Override
            public Void visitMethod(MethodTree method, Void none) {
                methods.add(method.getName().toString());
                if (method.getModifiers().getFlags().contains(Modifier.PUBLIC)) {
                    publicMethods.add(method.getName().toString());
                }
                return super.visitMethod(method, none);
            }

            @Override
            public Void visitVariable(VariableTree variable, Void none) {
                String name = variable.getName().toString();
                if (variable.getType() instanceof ArrayTypeTree) {
                    arrays.add(name);
                }
                if (isConstant(variable)) {
                    constants.add(name);
                }
                return super.visitVariable(variable, none);
            }
        }.scan(new TreePath(unit), null);
    }

    private static boolean isConstant(VariableTree variable) {
        Set<Modifier> flags = variable.getModifiers().getFlags();
        return flags.contains(Modifier.STATIC) && flags.contains(Modifier.FINAL)
            && isNumberType(variable.getType(), Set.of(TypeKind.INT, TypeKind.LONG))
            && isNumber(variable.getInitializer());
    }

    private static boolean isNumberType(Tree type, Set<TypeKind> kinds) {
        return type instanceof PrimitiveTypeTree number && kinds.contains(number.getPrimitiveTypeKind());
    }

    private static boolean isNumber(Tree expression) {
        return expression instanceof LiteralTree literal && literal.getValue() instanceof Number;
    }

    private static boolean isNumberOtherThan0(Tree expression) {
        return isNumber(expression) && ((Number) ((LiteralTree) expression).getValue()).longValue() != 0;
    }

    private boolean isNamed(Tree expression, Set<String> names) {
        return expression instanceof IdentifierTree name && names.contains(name.getName().toString());
    }

    // The class and what stands around it

    @Override
    public Void visitCompilationUnit(CompilationUnitTree whole, Void none) {
        breaksIf(whole.getPackage() != null, 1, whole, "a package line");
        breaksIf(!whole.getImports().isEmpty(), 3, whole, "an import");
        breaksIf(whole.getTypeDecls().size() != 1, 1, whole, "not just one class");
        return super.visitCompilationUnit(whole, none);
    }

    @Override
    public Void visitClass(ClassTree type, Void none) {
        boolean isTop = getCurrentPath().getParentPath().getLeaf() == unit;
        breaksIf(!isTop, 1, type, "a nested class");
        breaksIf(type.getKind() != Tree.Kind.CLASS, 1, type, "not a class");
        breaksIf(!type.getModifiers().getFlags().equals(Set.of(Modifier.PUBLIC, Modifier.FINAL)), 1, type, "not public final");
        breaksIf(type.getExtendsClause() != null || !type.getImplementsClause().isEmpty(), 2, type, "another class");
        int fields = 0;
        for (Tree member : type.getMembers()) {
            if (member instanceof VariableTree field) {
                lookAtField(field);
                fields += isConstant(field) ? 0 : 1;
            }
            breaksIf(member instanceof BlockTree block && block.isStatic(), 5, member, "a static initialiser");
        }
        breaksIf(fields > MOST_FIELDS, 10, type, fields + " fields");
        return super.visitClass(type, none);
    }

    private void lookAtField(VariableTree field) {
        Set<Modifier> flags = field.getModifiers().getFlags();
        breaksIf(!flags.contains(Modifier.PRIVATE), 1, field, "a field that can be seen");
        breaksIf(flags.contains(Modifier.STATIC) && !isConstant(field), 5, field, "a static field that is no constant");
    }

    @Override
    public Void visitAnnotation(AnnotationTree annotation, Void none) {
        breaks(3, annotation, "an annotation");
        return null;
    }

    @Override
    public Void visitMethod(MethodTree method, Void none) {
        String name = method.getName().toString();
        Set<Modifier> flags = method.getModifiers().getFlags();
        breaksIf(!flags.contains(Modifier.PUBLIC) && !flags.contains(Modifier.PRIVATE), 1, method, "a method that can be seen");
        breaksIf(flags.contains(Modifier.PRIVATE) && publicMethods.contains(name), 1, method, "a private method with a public one's name");
        breaksIf(flags.contains(Modifier.SYNCHRONIZED) || !method.getThrows().isEmpty(), 6, method, "synchronized or throws");
        breaksIf(method.getParameters().size() > MOST_PARAMETERS, 10, method, "too many parameters");
        int lines = lastLineOf(method) - firstLineOf(method) + 1;
        breaksIf(lines > MOST_LINES, 10, method, lines + " lines");
        Tree answer = method.getReturnType();
        breaksIf(answer instanceof ArrayTypeTree, 4, method, "an array as an answer");
        breaksIf(answer != null && !(answer instanceof PrimitiveTypeTree), 2, method, "an answer that is no number");
        calls.putIfAbsent(name, new TreeSet<>());
        return super.visitMethod(method, none);
    }

    // Types and names

    @Override
    public Void visitVariable(VariableTree variable, Void none) {
        Tree type = variable.getType();
        Tree inside = type instanceof ArrayTypeTree array ? array.getType() : type;
        breaksIf(!isNumberType(inside, NUMBER_TYPES), 2, variable, "a type that is no number and no array of numbers");
        boolean isSecondName = type instanceof ArrayTypeTree && getCurrentPath().getParentPath().getLeaf() instanceof BlockTree;
        breaksIf(isSecondName, 4, variable, "a local variable that names an array");
        return super.visitVariable(variable, none);
    }

    @Override
    public Void visitPrimitiveType(PrimitiveTypeTree type, Void none) {
        TypeKind kind = type.getPrimitiveTypeKind();
        breaksIf(kind == TypeKind.FLOAT || kind == TypeKind.DOUBLE, 2, type, "float or double");
        return null;
    }

    @Override
    public Void visitLiteral(LiteralTree literal, Void none) {
        Object value = literal.getValue();
        breaksIf(value instanceof String || value instanceof Double || value instanceof Float, 2, literal, "a text or a broken number");
        breaksIf(value == null, 4, literal, "null");
        return null;
    }

    @Override
    public Void visitMemberSelect(MemberSelectTree select, Void none) {
        String name = select.getIdentifier().toString();
        boolean isOwn = select.getExpression() instanceof IdentifierTree left && left.getName().contentEquals("this");
        boolean isLength = name.equals("length") && isNamed(select.getExpression(), arrays);
        breaksIf(!isOwn && !isLength, 3, select, "something of another class: " + select);
        return super.visitMemberSelect(select, none);
    }

    // Arrays

    @Override
    public Void visitNewArray(NewArrayTree made, Void none) {
        boolean isOneLength = made.getDimensions().size() == 1 && made.getInitializers() == null;
        Tree length = isOneLength ? made.getDimensions().get(0) : null;
        breaksIf(!isNumberOtherThan0(length) && !isNamed(length, constants), 4, made, "an array without one length that is a constant");
        breaksIf(!isMadeAtTheStart(), 4, made, "an array that is not made once at the start");
        return super.visitNewArray(made, none);
    }

    private boolean isMadeAtTheStart() {
        for (TreePath path = getCurrentPath(); path != null; path = path.getParentPath()) {
            Tree tree = path.getLeaf();
            if (BEHIND_A_CONDITION.contains(tree.getKind())) {
                return false;
            }
            if (tree instanceof MethodTree method) {
                return method.getName().contentEquals("<init>");
            }
        }
        return true;
    }

    @Override
    public Void visitNewClass(NewClassTree made, Void none) {
        breaks(3, made, "an object");
        return super.visitNewClass(made, none);
    }

    /** An array's name stands before an index or a .length, or is handed to a method; nothing else is done with it. */
    @Override
    public Void visitIdentifier(IdentifierTree name, Void none) {
        if (isNamed(name, arrays)) {
            Tree around = getCurrentPath().getParentPath().getLeaf();
            boolean isIndexed = around instanceof ArrayAccessTree access && access.getExpression() == name;
            boolean isHanded = around instanceof MethodInvocationTree call && call.getArguments().contains(name);
            breaksIf(!isIndexed && !isHanded && !(around instanceof MemberSelectTree), 4, name, "an array as a whole: " + around);
        }
        return null;
    }

    // What stands in methods

    @Override
    public Void scan(Tree tree, Void none) {
        if (tree != null) {
            Tree.Kind kind = tree.getKind();
            breaksIf(RULED_OUT_BY_6.contains(kind), 6, tree, "" + kind);
            breaksIf(ENDLESS_LOOPS.contains(kind), 8, tree, "a loop without a counter");
        }
        return super.scan(tree, none);
    }

    @Override
    public Void visitTypeCast(TypeCastTree cast, Void none) {
        breaksIf(!(cast.getType() instanceof PrimitiveTypeTree), 6, cast, "a cast of a reference");
        return super.visitTypeCast(cast, none);
    }

    @Override
    public Void visitBinary(BinaryTree binary, Void none) {
        lookAtDivisor(binary, binary.getRightOperand());
        return super.visitBinary(binary, none);
    }

    @Override
    public Void visitCompoundAssignment(CompoundAssignmentTree assignment, Void none) {
        lookAtDivisor(assignment, assignment.getExpression());
        return super.visitCompoundAssignment(assignment, none);
    }

    private void lookAtDivisor(Tree division, Tree divisor) {
        boolean mayBe0 = DIVISIONS.contains(division.getKind()) && !isNumberOtherThan0(divisor);
        breaksIf(mayBe0, 7, division, "a divisor that may be 0");
    }

    /** The one form of a loop: for (int i = ..; i < bound; i++), where neither changes inside. */
    @Override
    public Void visitForLoop(ForLoopTree loop, Void none) {
        Set<String> changed = changedIn(loop.getStatement());
        String counter = loop.getInitializer().size() == 1 && loop.getInitializer().get(0) instanceof VariableTree variable
            ? variable.getName().toString() : "";
        String bound = loop.getCondition() instanceof BinaryTree condition && condition.getKind() == Tree.Kind.LESS_THAN
            && isNamed(condition.getLeftOperand(), Set.of(counter)) ? condition.getRightOperand().toString() : "";
        boolean isBounded = bound.matches("\\w+") && !changed.contains(bound) && !bound.equals(counter);
        boolean goesUp = loop.getUpdate().size() == 1 && loop.getUpdate().get(0).getExpression().toString().equals(counter + "++");
        breaksIf(!isBounded || !goesUp || changed.contains(counter), 8, loop, "a loop whose end can't be seen");
        return super.visitForLoop(loop, none);
    }

    private static Set<String> changedIn(Tree body) {
        Set<String> changed = new HashSet<>();
        new com.sun.source.util.TreeScanner<Void, Void>() {
            @Override
            public Void visitAssignment(AssignmentTree assignment, Void none) {
                changed.add(assignment.getVariable().toString());
                return super.visitAssignment(assignment, none);
            }

            @Override
            public Void visitCompoundAssignment(CompoundAssignmentTree assignment, Void none) {
                changed.add(assignment.getVariable().toString());
                return super.visitCompoundAssignment(assignment, none);
            }

            @Override
            public Void visitUnary(UnaryTree unary, Void none) {
                if (COUNTING.contains(unary.getKind())) {
                    changed.add(unary.getExpression().toString());
                }
                return super.visitUnary(unary, none);
            }
        }.scan(body, null);
        return changed;
    }

    // Calls

    @Override
    public Void visitMethodInvocation(MethodInvocationTree call, Void none) {
        String called = call.getMethodSelect().toString().replaceFirst("^this\\.", "");
        breaksIf(!methods.contains(called), 3, call, "a call of another class: " + called);
        for (ExpressionTree argument : call.getArguments()) {
            breaksIf(hasCall(argument), 10, call, "a call inside the arguments of another one: " + call);
        }
        calls.computeIfAbsent(caller(), name -> new TreeSet<>()).add(called);
        return super.visitMethodInvocation(call, none);
    }

    private static boolean hasCall(Tree tree) {
        List<Tree> found = new ArrayList<>();
        new com.sun.source.util.TreeScanner<Void, Void>() {
            @Override
            public Void visitMethodInvocation(MethodInvocationTree call, Void none) {
                found.add(call);
                return null;
            }
        }.scan(tree, null);
        return !found.isEmpty();
    }

    private String caller() {
        for (TreePath path = getCurrentPath(); path != null; path = path.getParentPath()) {
            if (path.getLeaf() instanceof MethodTree method) {
                return method.getName().toString();
            }
        }
        return "a field's initialiser";
    }

    /** Depths rise along calls; where calls come back to their caller, they rise without end. */
    private void lookAtCalls() {
        Map<String, Integer> depths = new HashMap<>();
        calls.keySet().forEach(name -> depths.put(name, 1));
        for (int round = 0; round <= calls.size(); round++) {
            calls.forEach((caller, called) -> called.forEach(
                name -> depths.merge(caller, 1 + depths.getOrDefault(name, 1), Math::max)));
        }
        depths.forEach((name, depth) -> {
            if (depth > calls.size()) {
                broken.add("rule 8: recursion from " + name);
            } else if (depth > MOST_DEPTH) {
                broken.add("rule 10: calls from " + name + " go " + depth + " deep");
            }
        });
    }
}
