import com.sun.source.tree.ArrayTypeTree;
import com.sun.source.tree.AssignmentTree;
import com.sun.source.tree.BinaryTree;
import com.sun.source.tree.BlockTree;
import com.sun.source.tree.ClassTree;
import com.sun.source.tree.CompilationUnitTree;
import com.sun.source.tree.CompoundAssignmentTree;
import com.sun.source.tree.ExpressionStatementTree;
import com.sun.source.tree.ExpressionTree;
import com.sun.source.tree.ForLoopTree;
import com.sun.source.tree.IdentifierTree;
import com.sun.source.tree.LiteralTree;
import com.sun.source.tree.MemberSelectTree;
import com.sun.source.tree.MethodInvocationTree;
import com.sun.source.tree.MethodTree;
import com.sun.source.tree.ModifiersTree;
import com.sun.source.tree.NewArrayTree;
import com.sun.source.tree.PrimitiveTypeTree;
import com.sun.source.tree.StatementTree;
import com.sun.source.tree.Tree;
import com.sun.source.tree.Tree.Kind;
import com.sun.source.tree.TypeCastTree;
import com.sun.source.tree.UnaryTree;
import com.sun.source.tree.VariableTree;
import com.sun.source.util.JavacTask;
import com.sun.source.util.TreeScanner;
import com.sun.source.util.Trees;
import java.io.IOException;
import java.nio.file.Path;
import java.util.ArrayDeque;
import java.util.Deque;
import java.util.EnumSet;
import java.util.HashSet;
import java.util.Map;
import java.util.Set;
import java.util.TreeMap;
import java.util.TreeSet;
import javax.lang.model.element.Modifier;
import javax.lang.model.type.TypeKind;
import javax.tools.JavaCompiler;
import javax.tools.StandardJavaFileManager;
import javax.tools.ToolProvider;

// The rules of LANGUAGE.md that only the source shows. Rule 7 is not here: no tree tells whether a call throws; nor is
// the sign of a loop's step, which the runs of the other tests show.
public final class GroupAllocatorSource {
    private static final Path SOURCE = Path.of("src/main/java/GroupAllocator.java");

    // What is not named here is refused. while and do, which rule 9 allows, are left out: this test sees the end
    // that rule 8 asks for in a counting for loop alone.
    private static final Set<Kind> ALLOWED = EnumSet.of(
        Kind.COMPILATION_UNIT, Kind.CLASS, Kind.MODIFIERS, Kind.VARIABLE, Kind.METHOD,
        Kind.PRIMITIVE_TYPE, Kind.ARRAY_TYPE, Kind.NEW_ARRAY, Kind.ARRAY_ACCESS, Kind.MEMBER_SELECT,
        Kind.BLOCK, Kind.IF, Kind.FOR_LOOP, Kind.SWITCH, Kind.CASE, Kind.BREAK, Kind.CONTINUE,
        Kind.LABELED_STATEMENT, Kind.RETURN, Kind.EXPRESSION_STATEMENT, Kind.METHOD_INVOCATION,
        Kind.IDENTIFIER, Kind.PARENTHESIZED, Kind.TYPE_CAST, Kind.CONDITIONAL_EXPRESSION,
        Kind.INT_LITERAL, Kind.LONG_LITERAL, Kind.CHAR_LITERAL, Kind.BOOLEAN_LITERAL,
        Kind.ASSIGNMENT, Kind.PLUS_ASSIGNMENT, Kind.MINUS_ASSIGNMENT, Kind.MULTIPLY_ASSIGNMENT,
        Kind.DIVIDE_ASSIGNMENT, Kind.REMAINDER_ASSIGNMENT, Kind.AND_ASSIGNMENT, Kind.OR_ASSIGNMENT,
        Kind.XOR_ASSIGNMENT, Kind.LEFT_SHIFT_ASSIGNMENT, Kind.RIGHT_SHIFT_ASSIGNMENT,
        Kind.UNSIGNED_RIGHT_SHIFT_ASSIGNMENT,
        Kind.POSTFIX_INCREMENT, Kind.POSTFIX_DECREMENT, Kind.PREFIX_INCREMENT, Kind.PREFIX_DECREMENT,
        Kind.UNARY_PLUS, Kind.UNARY_MINUS, Kind.BITWISE_COMPLEMENT, Kind.LOGICAL_COMPLEMENT,
        Kind.PLUS, Kind.MINUS, Kind.MULTIPLY, Kind.DIVIDE, Kind.REMAINDER,
        Kind.AND, Kind.OR, Kind.XOR, Kind.LEFT_SHIFT, Kind.RIGHT_SHIFT, Kind.UNSIGNED_RIGHT_SHIFT,
        Kind.EQUAL_TO, Kind.NOT_EQUAL_TO, Kind.LESS_THAN, Kind.LESS_THAN_EQUAL, Kind.GREATER_THAN,
        Kind.GREATER_THAN_EQUAL, Kind.CONDITIONAL_AND, Kind.CONDITIONAL_OR);
    private static final Set<Modifier> MODIFIERS =
        EnumSet.of(Modifier.PUBLIC, Modifier.PRIVATE, Modifier.STATIC, Modifier.FINAL);
    private static final Set<Kind> UPWARDS = EnumSet.of(Kind.LESS_THAN, Kind.LESS_THAN_EQUAL);
    private static final Set<Kind> DOWNWARDS = EnumSet.of(Kind.GREATER_THAN, Kind.GREATER_THAN_EQUAL);
    private static final Set<Kind> STEPS_UP =
        EnumSet.of(Kind.POSTFIX_INCREMENT, Kind.PREFIX_INCREMENT, Kind.PLUS_ASSIGNMENT);
    private static final Set<Kind> STEPS_DOWN =
        EnumSet.of(Kind.POSTFIX_DECREMENT, Kind.PREFIX_DECREMENT, Kind.MINUS_ASSIGNMENT);

    private static CompilationUnitTree unit;
    private static Trees trees;
    private static int wrong = 0;

    private static long lineOf(long position) {
        return unit.getLineMap().getLineNumber(position);
    }

    private static long firstLineOf(Tree tree) {
        return lineOf(trees.getSourcePositions().getStartPosition(unit, tree));
    }

    private static long lastLineOf(Tree tree) {
        return lineOf(trees.getSourcePositions().getEndPosition(unit, tree));
    }

    private static void check(int rule, Tree at, String what, boolean holds) {
        if (!holds) {
            wrong++;
            System.out.println("rule " + rule + ", line " + firstLineOf(at) + ": " + what);
        }
    }

    private static boolean isPlainNumber(Tree type) {
        return type instanceof PrimitiveTypeTree
            && !Set.of(TypeKind.FLOAT, TypeKind.DOUBLE).contains(((PrimitiveTypeTree) type).getPrimitiveTypeKind());
    }

    private static boolean isArray(Tree type) {
        return type instanceof ArrayTypeTree;
    }

    private static boolean isAllowedType(Tree type) {
        return isPlainNumber(isArray(type) ? ((ArrayTypeTree) type).getType() : type);
    }

    private static String nameOf(Tree tree) {
        return tree instanceof IdentifierTree ? ((IdentifierTree) tree).getName().toString() : "";
    }

    private static boolean isNumber(Tree tree) {
        return tree.getKind() == Kind.INT_LITERAL || tree.getKind() == Kind.LONG_LITERAL;
    }

    // What a piece of code may change: assigned names, and counters that are stepped.
    private static Set<String> changedIn(Tree code) {
        Set<String> names = new HashSet<>();
        new TreeScanner<Void, Void>() {
            @Override
            public Void visitAssignment(AssignmentTree tree, Void none) {
                names.add(nameOf(tree.getVariable()));
                return super.visitAssignment(tree, none);
            }

            @Override
            public Void visitCompoundAssignment(CompoundAssignmentTree tree, Void none) {
                names.add(nameOf(tree.getVariable()));
                return super.visitCompoundAssignment(tree, none);
            }

            @Override
            public Void visitUnary(UnaryTree tree, Void none) {
                if (STEPS_UP.contains(tree.getKind()) || STEPS_DOWN.contains(tree.getKind())) {
                    names.add(nameOf(tree.getExpression()));
                }
                return super.visitUnary(tree, none);
            }
        }.scan(code, null);
        return names;
    }

    private static Set<String> namesIn(Tree code) {
        Set<String> names = new HashSet<>();
        new TreeScanner<Void, Void>() {
            @Override
            public Void visitIdentifier(IdentifierTree tree, Void none) {
                names.add(nameOf(tree));
                return super.visitIdentifier(tree, none);
            }
        }.scan(code, null);
        return names;
    }

    private static boolean contains(Tree code, Kind kind) {
        boolean[] found = {false};
        new TreeScanner<Void, Void>() {
            @Override
            public Void scan(Tree tree, Void none) {
                found[0] |= tree != null && tree.getKind() == kind;
                return super.scan(tree, none);
            }
        }.scan(code, null);
        return found[0];
    }

    // The counter's own comparison may be followed by && and another reason to end early.
    private static ExpressionTree comparisonOf(ExpressionTree condition) {
        ExpressionTree left = condition;
        while (left != null && left.getKind() == Kind.CONDITIONAL_AND) {
            left = ((BinaryTree) left).getLeftOperand();
        }
        return left;
    }

    private static boolean stepsTowards(Kind comparison, StatementTree update, String counter) {
        ExpressionTree step = ((ExpressionStatementTree) update).getExpression();
        boolean up = UPWARDS.contains(comparison) && STEPS_UP.contains(step.getKind());
        boolean down = DOWNWARDS.contains(comparison) && STEPS_DOWN.contains(step.getKind());
        return (up || down) && changedIn(update).equals(Set.of(counter));
    }

    private static boolean isCounting(ForLoopTree loop) {
        ExpressionTree comparison = comparisonOf(loop.getCondition());
        boolean hasItsParts = loop.getInitializer().size() == 1 && loop.getUpdate().size() == 1
            && loop.getInitializer().get(0) instanceof VariableTree && comparison instanceof BinaryTree;
        if (!hasItsParts) {
            return false;
        }
        String counter = ((VariableTree) loop.getInitializer().get(0)).getName().toString();
        BinaryTree against = (BinaryTree) comparison;
        Set<String> mustStand = namesIn(against.getRightOperand());
        mustStand.addAll(namesIn(loop.getUpdate().get(0)));
        mustStand.add(counter);
        mustStand.retainAll(changedIn(loop.getStatement()));
        return mustStand.isEmpty() && nameOf(against.getLeftOperand()).equals(counter)
            && !namesIn(against.getRightOperand()).contains(counter)
            && !contains(against.getRightOperand(), Kind.METHOD_INVOCATION)
            && stepsTowards(against.getKind(), loop.getUpdate().get(0), counter);
    }

    private static boolean isStaticField(Tree member) {
        return member instanceof VariableTree
            && ((VariableTree) member).getModifiers().getFlags().contains(Modifier.STATIC);
    }

    // Every rule that one place of the source can break by itself.
    private static final class Places extends TreeScanner<Void, Void> {
        final Set<String> constants = new HashSet<>();
        final Set<String> methods = new HashSet<>();
        final Set<String> arrays = new HashSet<>();

        Places(ClassTree type) {
            for (Tree member : type.getMembers()) {
                if (member instanceof MethodTree) {
                    methods.add(((MethodTree) member).getName().toString());
                } else if (isStaticField(member)) {
                    constants.add(((VariableTree) member).getName().toString());
                }
            }
            new TreeScanner<Void, Void>() {
                @Override
                public Void visitVariable(VariableTree tree, Void none) {
                    if (isArray(tree.getType())) {
                        arrays.add(tree.getName().toString());
                    }
                    return super.visitVariable(tree, none);
                }
            }.scan(type, null);
        }

        @Override
        public Void scan(Tree tree, Void none) {
            if (tree != null) {
                check(6, tree, tree.getKind() + " is not of the allowed Java: " + tree,
                    ALLOWED.contains(tree.getKind()));
            }
            return super.scan(tree, none);
        }

        @Override
        public Void visitClass(ClassTree tree, Void none) {
            check(3, tree, "another class is named in the class's head",
                tree.getExtendsClause() == null && tree.getImplementsClause().isEmpty());
            return super.visitClass(tree, none);
        }

        @Override
        public Void visitModifiers(ModifiersTree tree, Void none) {
            check(6, tree, "a modifier that is not allowed: " + tree, MODIFIERS.containsAll(tree.getFlags()));
            return super.visitModifiers(tree, none);
        }

        @Override
        public Void visitTypeCast(TypeCastTree tree, Void none) {
            check(6, tree, "a cast of a reference: " + tree, isPlainNumber(tree.getType()));
            return super.visitTypeCast(tree, none);
        }

        @Override
        public Void visitVariable(VariableTree tree, Void none) {
            check(2, tree, "a type that is not allowed: " + tree, isAllowedType(tree.getType()));
            return super.visitVariable(tree, none);
        }

        @Override
        public Void visitMethod(MethodTree tree, Void none) {
            Tree answer = tree.getReturnType();
            check(4, tree, "a method answers no array: " + tree.getName(), !isArray(answer));
            check(2, tree, "a type that is not allowed: " + answer, answer == null || isPlainNumber(answer));
            check(10, tree, "longer than sixty lines: " + tree.getName(), lastLineOf(tree) - firstLineOf(tree) < 60);
            check(6, tree, "throws stands at " + tree.getName(), tree.getThrows().isEmpty());
            return super.visitMethod(tree, none);
        }

        @Override
        public Void visitMemberSelect(MemberSelectTree tree, Void none) {
            boolean isOwn = nameOf(tree.getExpression()).equals("this");
            boolean isLength = arrays.contains(nameOf(tree.getExpression()))
                && tree.getIdentifier().contentEquals("length");
            check(3, tree, "a member of something else: " + tree, isOwn || isLength);
            return super.visitMemberSelect(tree, none);
        }

        @Override
        public Void visitMethodInvocation(MethodInvocationTree tree, Void none) {
            check(3, tree, "not a method of this class: " + tree, methods.contains(nameOf(tree.getMethodSelect())));
            for (ExpressionTree argument : tree.getArguments()) {
                check(10, tree, "a call inside the arguments of a call: " + tree,
                    !contains(argument, Kind.METHOD_INVOCATION));
            }
            return super.visitMethodInvocation(tree, none);
        }

        @Override
        public Void visitNewArray(NewArrayTree tree, Void none) {
            boolean hasLength = tree.getDimensions().size() == 1 && tree.getInitializers() == null
                && isPlainNumber(tree.getType());
            check(4, tree, "not an array of one given length: " + tree, hasLength);
            if (hasLength) {
                ExpressionTree length = tree.getDimensions().get(0);
                check(4, tree, "its length is no literal and no constant: " + tree,
                    isNumber(length) || constants.contains(nameOf(length)));
                check(4, tree, "its length is not 1 or more: " + tree,
                    !isNumber(length) || ((Number) ((LiteralTree) length).getValue()).longValue() >= 1);
            }
            return super.visitNewArray(tree, none);
        }

        @Override
        public Void visitAssignment(AssignmentTree tree, Void none) {
            check(4, tree, "an array variable is assigned: " + tree, !arrays.contains(nameOf(tree.getVariable())));
            return super.visitAssignment(tree, none);
        }

        @Override
        public Void visitBinary(BinaryTree tree, Void none) {
            check(4, tree, "an array is compared: " + tree, !arrays.contains(nameOf(tree.getLeftOperand()))
                && !arrays.contains(nameOf(tree.getRightOperand())));
            return super.visitBinary(tree, none);
        }

        @Override
        public Void visitForLoop(ForLoopTree tree, Void none) {
            check(8, tree, "no counter that steps towards a bound that stands: " + tree.getCondition(),
                isCounting(tree));
            return super.visitForLoop(tree, none);
        }
    }

    private static void checkMembers(ClassTree type) {
        for (Tree member : type.getMembers()) {
            check(5, member, "a block among the members", !(member instanceof BlockTree));
            check(1, member, "a class in the class", !(member instanceof ClassTree));
            if (isStaticField(member)) {
                checkConstant((VariableTree) member);
            }
            if (member instanceof MethodTree) {
                check(4, member, "an array is made outside the fields' initialisers",
                    !contains(member, Kind.NEW_ARRAY));
            }
        }
    }

    private static void checkConstant(VariableTree field) {
        ExpressionTree value = field.getInitializer();
        boolean isConstant = field.getModifiers().getFlags().contains(Modifier.FINAL)
            && Set.of("int", "long").contains(field.getType().toString())
            && value != null && !contains(value, Kind.METHOD_INVOCATION);
        check(5, field, "not a constant of int or long: " + field, isConstant);
    }

    private static Map<String, Set<String>> callsOf(ClassTree type) {
        Map<String, Set<String>> calls = new TreeMap<>();
        for (Tree member : type.getMembers()) {
            if (member instanceof MethodTree) {
                MethodTree method = (MethodTree) member;
                // Methods of one name count as one: this sees a recursion too much, never one too few.
                Set<String> called = calls.computeIfAbsent(method.getName().toString(), name -> new TreeSet<>());
                new TreeScanner<Void, Void>() {
                    @Override
                    public Void visitMethodInvocation(MethodInvocationTree tree, Void none) {
                        called.add(nameOf(tree.getMethodSelect()));
                        return super.visitMethodInvocation(tree, none);
                    }
                }.scan(method, null);
            }
        }
        return calls;
    }

    private static int depthOf(String method, Map<String, Set<String>> calls, Deque<String> above, Tree at) {
        if (above.contains(method)) {
            check(8, at, "recursion through " + method + ", called by " + above, false);
            return 0;
        }
        above.push(method);
        int deepest = 0;
        for (String called : calls.getOrDefault(method, Set.of())) {
            deepest = Math.max(deepest, depthOf(called, calls, above, at));
        }
        above.pop();
        return 1 + deepest;
    }

    private static void checkCalls(ClassTree type) {
        Map<String, Set<String>> calls = callsOf(type);
        for (String method : calls.keySet()) {
            int depth = depthOf(method, calls, new ArrayDeque<>(), type);
            check(10, type, "calls go " + depth + " deep from " + method, depth <= 6);
        }
    }

    private static void parse() throws IOException {
        JavaCompiler compiler = ToolProvider.getSystemJavaCompiler();
        try (StandardJavaFileManager files = compiler.getStandardFileManager(null, null, null)) {
            JavacTask task = (JavacTask) compiler.getTask(null, files, null, null, null,
                files.getJavaFileObjects(SOURCE));
            unit = task.parse().iterator().next();
            trees = Trees.instance(task);
        }
    }

    public static void main(String[] args) throws IOException {
        parse();
        check(3, unit, "something is imported", unit.getImports().isEmpty());
        check(1, unit, "not one class in the file", unit.getTypeDecls().size() == 1);
        for (Tree type : unit.getTypeDecls()) {
            if (type instanceof ClassTree) {
                new Places((ClassTree) type).scan(unit, null);
                checkMembers((ClassTree) type);
                checkCalls((ClassTree) type);
            }
        }
        System.out.println(wrong == 0 ? "the source keeps the rules" : wrong + " places break a rule");
        if (wrong != 0) {
            System.exit(1);
        }
    }
}
