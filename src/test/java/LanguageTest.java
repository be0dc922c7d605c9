import com.sun.source.tree.ArrayAccessTree;
import com.sun.source.tree.AssignmentTree;
import com.sun.source.tree.BinaryTree;
import com.sun.source.tree.ClassTree;
import com.sun.source.tree.CompilationUnitTree;
import com.sun.source.tree.CompoundAssignmentTree;
import com.sun.source.tree.ExpressionStatementTree;
import com.sun.source.tree.ExpressionTree;
import com.sun.source.tree.ForLoopTree;
import com.sun.source.tree.IdentifierTree;
import com.sun.source.tree.LiteralTree;
import com.sun.source.tree.MemberSelectTree;
import com.sun.source.tree.MethodInvocationTree;
import com.sun.source.tree.MethodTree;
import com.sun.source.tree.NewArrayTree;
import com.sun.source.tree.StatementTree;
import com.sun.source.tree.Tree;
import com.sun.source.tree.TypeCastTree;
import com.sun.source.tree.UnaryTree;
import com.sun.source.tree.VariableTree;
import com.sun.source.util.JavacTask;
import com.sun.source.util.SourcePositions;
import com.sun.source.util.TreeScanner;
import com.sun.source.util.Trees;
import java.io.IOException;
import java.nio.file.Path;
import java.util.HashSet;
import java.util.List;
import java.util.Map;
import java.util.Set;
import java.util.TreeMap;
import java.util.TreeSet;
import javax.lang.model.element.Modifier;
import javax.tools.JavaCompiler;
import javax.tools.StandardJavaFileManager;
import javax.tools.ToolProvider;

/** Reads the source of the class and holds it to those rules of LANGUAGE.md that its syntax shows. */
public final class LanguageTest {
    private static final Path SOURCE = Path.of("src/main/java/WeaveStore.java");
    private static final int MOST_LINES = 60;
    private static final int MOST_PARAMETERS = 7;
    private static final int DEEPEST = 6;
    private static final Due DUE = new Due();

    // Kept stricter than the rules where the class needs no more: it has no while and no do loop.
    private static final Set<Tree.Kind> FORBIDDEN = Set.of(
            Tree.Kind.IMPORT, Tree.Kind.PACKAGE, Tree.Kind.INTERFACE, Tree.Kind.ENUM, Tree.Kind.RECORD,
            Tree.Kind.ANNOTATION_TYPE, Tree.Kind.THROW, Tree.Kind.TRY, Tree.Kind.CATCH, Tree.Kind.SYNCHRONIZED,
            Tree.Kind.ASSERT, Tree.Kind.INSTANCE_OF, Tree.Kind.LAMBDA_EXPRESSION, Tree.Kind.MEMBER_REFERENCE,
            Tree.Kind.NEW_CLASS, Tree.Kind.NULL_LITERAL, Tree.Kind.STRING_LITERAL, Tree.Kind.FLOAT_LITERAL,
            Tree.Kind.DOUBLE_LITERAL, Tree.Kind.PARAMETERIZED_TYPE, Tree.Kind.WHILE_LOOP, Tree.Kind.DO_WHILE_LOOP,
            Tree.Kind.ENHANCED_FOR_LOOP);

    private static final Set<String> NUMBER_TYPES = Set.of("int", "long", "short", "byte", "char", "boolean");

    private static final Set<Tree.Kind> CONSTANT_PARTS = Set.of(
            Tree.Kind.INT_LITERAL, Tree.Kind.LONG_LITERAL, Tree.Kind.IDENTIFIER, Tree.Kind.PARENTHESIZED,
            Tree.Kind.UNARY_MINUS, Tree.Kind.PLUS, Tree.Kind.MINUS, Tree.Kind.MULTIPLY, Tree.Kind.LEFT_SHIFT);

    private final CompilationUnitTree unit;
    private final SourcePositions positions;
    private final Map<String, Set<String>> callsOf = new TreeMap<>();

    private LanguageTest(CompilationUnitTree unit, SourcePositions positions) {
        this.unit = unit;
        this.positions = positions;
    }

    public static void main(String[] args) throws IOException {
        JavaCompiler compiler = ToolProvider.getSystemJavaCompiler();
        try (StandardJavaFileManager files = compiler.getStandardFileManager(null, null, null)) {
            JavacTask task = (JavacTask) compiler.getTask(null, files, null, List.of("-proc:none"), null,
                    files.getJavaFileObjects(SOURCE));
            CompilationUnitTree unit = task.parse().iterator().next();
            LanguageTest test = new LanguageTest(unit, Trees.instance(task).getSourcePositions());
            test.wholeFile();
            test.arrayNames();
            test.members();
            test.callDepth();
        }
        DUE.end();
    }

    private long row(Tree tree) {
        return unit.getLineMap().getLineNumber(positions.getStartPosition(unit, tree));
    }

    private void must(String rule, Tree tree, boolean holds) {
        DUE.same("line " + row(tree) + ": " + rule, holds, true);
    }

    private ClassTree onlyClass() {
        DUE.same("rule 1: classes in the file", unit.getTypeDecls().size(), 1);
        return (ClassTree) unit.getTypeDecls().get(0);
    }

    private void wholeFile() {
        new TreeScanner<Void, Void>() {
            @Override
            public Void scan(Tree tree, Void none) {
                if (tree != null) {
                    must("rules 1, 2, 3, 6, 8: " + tree.getKind(), tree, !FORBIDDEN.contains(tree.getKind()));
                }
                return super.scan(tree, none);
            }

            @Override
            public Void visitMemberSelect(MemberSelectTree tree, Void none) {
                must("rule 3: only an array's length is selected", tree, tree.getIdentifier().contentEquals("length"));
                return super.visitMemberSelect(tree, none);
            }

            @Override
            public Void visitVariable(VariableTree tree, Void none) {
                must("rule 2: type of " + tree.getName(), tree, isAllowedType(tree.getType()));
                return super.visitVariable(tree, none);
            }

            @Override
            public Void visitTypeCast(TypeCastTree tree, Void none) {
                must("rule 6: a cast to a number", tree, NUMBER_TYPES.contains(tree.getType().toString()));
                return super.visitTypeCast(tree, none);
            }
        }.scan(unit, null);
    }

    /**
     * An array's name stands only before an index or ".length": it is not compared, answered, assigned or renamed.
     * The class hands none to its methods either, which rule 4 would allow.
     */
    private void arrayNames() {
        Set<String> arrays = new HashSet<>();
        for (Tree member : onlyClass().getMembers()) {
            if (member instanceof VariableTree && isArray((VariableTree) member)) {
                arrays.add(((VariableTree) member).getName().toString());
            }
        }
        new TreeScanner<Void, Void>() {
            @Override
            public Void visitArrayAccess(ArrayAccessTree tree, Void none) {
                must("rule 2: an index into a named array", tree, arrays.contains(tree.getExpression().toString()));
                return scan(tree.getIndex(), none);
            }

            @Override
            public Void visitMemberSelect(MemberSelectTree tree, Void none) {
                return tree.getIdentifier().contentEquals("length") ? null : super.visitMemberSelect(tree, none);
            }

            @Override
            public Void visitIdentifier(IdentifierTree tree, Void none) {
                must("rule 4: the array " + tree + " without an index", tree, !arrays.contains(tree.toString()));
                return null;
            }

            @Override
            public Void visitMethod(MethodTree tree, Void none) {
                tree.getParameters().forEach(given -> must("rule 4: no array is handed on", given, !isArray(given)));
                return super.visitMethod(tree, none);
            }
        }.scan(onlyClass(), null);
    }

    private static boolean isArray(VariableTree variable) {
        return variable.getType().toString().endsWith("[]");
    }

    private static boolean isAllowedType(Tree type) {
        String name = type.toString();
        return NUMBER_TYPES.contains(name.endsWith("[]") ? name.substring(0, name.length() - 2) : name);
    }

    private void members() {
        for (Tree member : onlyClass().getMembers()) {
            if (member instanceof VariableTree) {
                field((VariableTree) member);
            } else {
                must("rules 1, 5: a member is a field or a method", member, member instanceof MethodTree);
                method((MethodTree) member);
            }
        }
    }

    private void field(VariableTree field) {
        boolean isArray = isArray(field);
        Set<Modifier> modifiers = field.getModifiers().getFlags();
        must("rule 5: no static array", field, !(isArray && modifiers.contains(Modifier.STATIC)));
        if (modifiers.contains(Modifier.STATIC)) {
            constant(field);
        }
        if (isArray) {
            must("rule 4: no method assigns to an array field", field, modifiers.contains(Modifier.FINAL));
            must("rule 4: made in its initialiser", field, field.getInitializer() instanceof NewArrayTree);
            NewArrayTree made = (NewArrayTree) field.getInitializer();
            must("rule 4: one length", field, made.getDimensions().size() == 1 && made.getInitializers() == null);
            ExpressionTree length = made.getDimensions().get(0);
            must("rule 4: a constant length", field, length instanceof LiteralTree || isConstant(length));
        }
    }

    private void constant(VariableTree field) {
        must("rule 5: a constant has a value", field, field.getInitializer() != null);
        new TreeScanner<Void, Void>() {
            @Override
            public Void scan(Tree part, Void none) {
                must("rule 5: a compile-time constant", field, part == null || CONSTANT_PARTS.contains(part.getKind()));
                return super.scan(part, none);
            }
        }.scan(field.getInitializer(), null);
    }

    private boolean isConstant(ExpressionTree length) {
        for (Tree member : onlyClass().getMembers()) {
            if (member instanceof VariableTree) {
                VariableTree field = (VariableTree) member;
                Set<Modifier> modifiers = field.getModifiers().getFlags();
                if (field.getName().contentEquals(length.toString())) {
                    return modifiers.contains(Modifier.STATIC) && modifiers.contains(Modifier.FINAL);
                }
            }
        }
        return false;
    }

    private void method(MethodTree method) {
        String name = method.getName().toString();
        Tree answer = method.getReturnType();
        long last = unit.getLineMap().getLineNumber(positions.getEndPosition(unit, method));
        must("rule 10: length of " + name, method, last - row(method) + 1 <= MOST_LINES);
        must("rule 10: parameters of " + name, method, method.getParameters().size() <= MOST_PARAMETERS);
        must("rules 2, 4: a number is answered, or nothing", method,
                answer == null || answer.toString().equals("void") || NUMBER_TYPES.contains(answer.toString()));
        must("the calls are told by names: one method of the name " + name, method, !callsOf.containsKey(name));
        callsOf.put(name, new TreeSet<>());
        body(method, callsOf.get(name));
    }

    private void body(MethodTree method, Set<String> calls) {
        new TreeScanner<Void, Boolean>() {
            @Override
            public Void visitMethodInvocation(MethodInvocationTree call, Boolean inArguments) {
                String name = call.getMethodSelect().toString();
                boolean isBare = call.getMethodSelect() instanceof IdentifierTree;
                must("rule 3: a bare name is called, not " + name, call, isBare);
                must("rule 10: no call inside the arguments of a call", call, !inArguments);
                calls.add(name);
                return scan(call.getArguments(), true);
            }

            @Override
            public Void visitNewArray(NewArrayTree made, Boolean inArguments) {
                must("rule 4: a method makes no array", made, false);
                return null;
            }

            @Override
            public Void visitForLoop(ForLoopTree loop, Boolean inArguments) {
                loop(loop);
                return super.visitForLoop(loop, inArguments);
            }
        }.scan(method, false);
    }

    /** One counter against a bound, stepped in the head alone. */
    private void loop(ForLoopTree loop) {
        List<? extends StatementTree> start = loop.getInitializer();
        List<? extends ExpressionStatementTree> steps = loop.getUpdate();
        boolean plain = start.size() == 1 && start.get(0) instanceof VariableTree && steps.size() == 1
                && steps.get(0).getExpression() instanceof UnaryTree && loop.getCondition() instanceof BinaryTree;
        must("rule 8: a loop with one counter", loop, plain);
        if (!plain) {
            return;
        }
        String counter = ((VariableTree) start.get(0)).getName().toString();
        UnaryTree step = (UnaryTree) steps.get(0).getExpression();
        BinaryTree bound = (BinaryTree) loop.getCondition();
        boolean up = step.getKind() == Tree.Kind.POSTFIX_INCREMENT && bound.getKind() == Tree.Kind.LESS_THAN;
        boolean down = step.getKind() == Tree.Kind.POSTFIX_DECREMENT
                && (bound.getKind() == Tree.Kind.GREATER_THAN || bound.getKind() == Tree.Kind.GREATER_THAN_EQUAL);
        must("rule 8: the counter goes to the bound", loop, up || down);
        must("rule 8: the counter is stepped", loop, step.getExpression().toString().equals(counter));
        must("rule 8: the counter is compared", loop, bound.getLeftOperand().toString().equals(counter));
        Set<String> changed = changedIn(loop.getStatement());
        must("rule 8: the loop leaves its counter alone", loop, !changed.contains(counter));
        must("rule 8: the loop leaves its bound alone", loop, !changed.contains(bound.getRightOperand().toString()));
    }

    private static Set<String> changedIn(Tree body) {
        Set<String> changed = new HashSet<>();
        new TreeScanner<Void, Void>() {
            @Override
            public Void visitAssignment(AssignmentTree tree, Void none) {
                changed.add(tree.getVariable().toString());
                return super.visitAssignment(tree, none);
            }

            @Override
            public Void visitCompoundAssignment(CompoundAssignmentTree tree, Void none) {
                changed.add(tree.getVariable().toString());
                return super.visitCompoundAssignment(tree, none);
            }

            @Override
            public Void visitUnary(UnaryTree tree, Void none) {
                // Minus and not are taken for changes too: that only makes the check stricter.
                changed.add(tree.getExpression().toString());
                return super.visitUnary(tree, none);
            }
        }.scan(body, null);
        return changed;
    }

    private void callDepth() {
        Map<String, Integer> depths = new TreeMap<>();
        // Without recursion every round settles at least one method.
        for (int round = 0; round < callsOf.size(); round++) {
            callsOf.forEach((name, calls) -> {
                if (depths.keySet().containsAll(calls)) {
                    depths.put(name, 1 + calls.stream().mapToInt(depths::get).max().orElse(0));
                }
            });
        }
        for (String name : callsOf.keySet()) {
            DUE.same("rules 3, 8: " + name + " calls own methods, without recursion", depths.containsKey(name), true);
            DUE.same("rule 10: depth of " + name, depths.getOrDefault(name, 0) <= DEEPEST, true);
        }
    }
}
