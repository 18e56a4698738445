import com.sun.source.tree.ArrayAccessTree;
import com.sun.source.tree.AssignmentTree;
import com.sun.source.tree.BinaryTree;
import com.sun.source.tree.BlockTree;
import com.sun.source.tree.ClassTree;
import com.sun.source.tree.CompilationUnitTree;
import com.sun.source.tree.CompoundAssignmentTree;
import com.sun.source.tree.ExpressionStatementTree;
import com.sun.source.tree.ExpressionTree;
import com.sun.source.tree.ForLoopTree;
import com.sun.source.tree.IdentifierTree;
import com.sun.source.tree.LiteralTree;
import com.sun.source.tree.MethodInvocationTree;
import com.sun.source.tree.MethodTree;
import com.sun.source.tree.NewArrayTree;
import com.sun.source.tree.Tree;
import com.sun.source.tree.UnaryTree;
import com.sun.source.tree.VariableTree;
import com.sun.source.util.JavacTask;
import com.sun.source.util.TreeScanner;
import com.sun.source.util.Trees;
import java.io.IOException;
import java.nio.file.Path;
import java.util.ArrayList;
import java.util.EnumSet;
import java.util.HashSet;
import java.util.LinkedHashMap;
import java.util.LinkedHashSet;
import java.util.List;
import java.util.Map;
import java.util.Set;
import javax.lang.model.element.Modifier;
import javax.tools.JavaCompiler;
import javax.tools.StandardJavaFileManager;
import javax.tools.ToolProvider;

/**
 * The rules of LANGUAGE.md that are about the text of the class, looked at in its syntax tree. Where
 * a rule leaves more than this class uses (while loops, casts, arrays made in the constructor or handed
 * to a method), this test asks for what the class does, so that it stays simple.
 */
public final class SourceTest {
    private static final String FILE = "src/main/java/JoinOrderer.java";
    private static final Set<String> TYPES = Set.of("int", "long", "short", "byte", "char", "boolean", "void");
    private static final Set<Tree.Kind> RULED_OUT = EnumSet.of(Tree.Kind.THROW, Tree.Kind.TRY, Tree.Kind.CATCH,
            Tree.Kind.SYNCHRONIZED, Tree.Kind.ASSERT, Tree.Kind.INSTANCE_OF, Tree.Kind.LAMBDA_EXPRESSION,
            Tree.Kind.MEMBER_REFERENCE, Tree.Kind.NEW_CLASS, Tree.Kind.NULL_LITERAL, Tree.Kind.STRING_LITERAL,
            Tree.Kind.FLOAT_LITERAL, Tree.Kind.DOUBLE_LITERAL, Tree.Kind.MEMBER_SELECT, Tree.Kind.ANNOTATION,
            Tree.Kind.WHILE_LOOP, Tree.Kind.DO_WHILE_LOOP, Tree.Kind.ENHANCED_FOR_LOOP, Tree.Kind.DIVIDE,
            Tree.Kind.REMAINDER, Tree.Kind.DIVIDE_ASSIGNMENT, Tree.Kind.REMAINDER_ASSIGNMENT, Tree.Kind.TYPE_CAST);

    private static final Due due = new Due();

    private final CompilationUnitTree unit;
    private final Trees trees;
    private final ClassTree program;
    private final Map<String, MethodTree> methods = new LinkedHashMap<>();
    private final List<VariableTree> fields = new ArrayList<>();

    private SourceTest(CompilationUnitTree unit, Trees trees) {
        this.unit = unit;
        this.trees = trees;
        this.program = (ClassTree) unit.getTypeDecls().get(0);
    }

    public static void main(String[] args) throws IOException {
        JavaCompiler compiler = ToolProvider.getSystemJavaCompiler();
        try (StandardJavaFileManager files = compiler.getStandardFileManager(null, null, null)) {
            JavacTask task = (JavacTask) compiler.getTask(null, files, null, List.of("--release", "17"), null,
                    files.getJavaFileObjects(Path.of(FILE)));
            CompilationUnitTree unit = task.parse().iterator().next();
            new SourceTest(unit, Trees.instance(task)).run();
        }
        due.end();
    }

    private void run() {
        oneClass();
        members();
        onlyTheLanguageLeft();
        typesArePlain();
        arraysAreMadeOnce();
        arraysAreOnlyIndexed();
        staticFieldsAreConstants();
        loopsEnd();
        callsAreNotNested();
        callsEndAndAreNotDeep();
        methodsAreShort();
    }

    private void oneClass() {
        due.by("1. One class");
        due.same("classes in the file", unit.getTypeDecls().size(), 1);
        due.same("imports", unit.getImports().size(), 0);
        due.same("a package line", unit.getPackageName() != null, false);
    }

    private void members() {
        due.by("1. No nested class, no two methods of one name");
        for (Tree member : program.getMembers()) {
            if (member instanceof MethodTree method) {
                String name = method.getName().toString();
                due.same("a second " + name, methods.put(name, method) != null, false);
            } else if (member instanceof VariableTree field) {
                fields.add(field);
            } else {
                due.same("a member of kind " + member.getKind(), false, true);
            }
        }
    }

    private void onlyTheLanguageLeft() {
        due.by("2, 3, 6, 7. What is ruled out");
        new TreeScanner<Void, Void>() {
            @Override
            public Void scan(Tree tree, Void none) {
                if (tree != null) {
                    due.same(tree.getKind() + " in line " + line(tree), RULED_OUT.contains(tree.getKind()), false);
                }
                return super.scan(tree, none);
            }
        }.scan(program, null);
    }

    private void typesArePlain() {
        due.by("2. Types: numbers, boolean, and one-dimensional arrays of these");
        new TreeScanner<Void, Void>() {
            @Override
            public Void visitVariable(VariableTree variable, Void none) {
                String type = variable.getType().toString().replaceFirst("\\[\\]$", "");
                due.same(variable + " is of a plain type", TYPES.contains(type), true);
                return super.visitVariable(variable, none);
            }
        }.scan(program, null);
        due.by("4. An array is never answered by a method");
        for (MethodTree method : methods.values()) {
            Tree type = method.getReturnType();
            due.same(method.getName() + " answers", type == null || TYPES.contains(type.toString()), true);
        }
    }

    private void arraysAreMadeOnce() {
        due.by("4. Arrays are made in a field's initialiser, with a constant length");
        Set<String> arrays = new HashSet<>();
        for (VariableTree field : fields) {
            if (field.getInitializer() instanceof NewArrayTree made) {
                arrays.add(field.getName().toString());
                due.same(field + " has one dimension", made.getDimensions().size(), 1);
                due.same(field + " has a list", made.getInitializers() != null, false);
                due.same(field + " has a constant length", isConstant(made.getDimensions().get(0)), true);
            }
        }
        for (MethodTree method : methods.values()) {
            due.same(method.getName() + " makes arrays", countNewArrays(method), 0);
            for (String name : assigned(method.getBody())) {
                due.same(method.getName() + " puts another array in " + name, arrays.contains(name), false);
            }
        }
    }

    /** So none is answered, compared, handed on, or named by a variable that changes in a loop. */
    private void arraysAreOnlyIndexed() {
        due.by("4. An array is never answered, never compared");
        Set<String> arrays = new HashSet<>();
        for (VariableTree field : fields) {
            if (isArray(field)) {
                arrays.add(field.getName().toString());
            }
        }
        new TreeScanner<Void, Void>() {
            @Override
            public Void visitVariable(VariableTree variable, Void none) {
                due.same(variable + " is an array, no field", isArray(variable) && !fields.contains(variable), false);
                return super.visitVariable(variable, none);
            }

            @Override
            public Void visitArrayAccess(ArrayAccessTree access, Void none) {
                due.same(access + " is of a field", arrays.contains(access.getExpression().toString()), true);
                return scan(access.getIndex(), none);
            }

            @Override
            public Void visitIdentifier(IdentifierTree name, Void none) {
                due.same(name + " without index in line " + line(name), arrays.contains(name.toString()), false);
                return null;
            }
        }.scan(program, null);
    }

    private static boolean isArray(VariableTree variable) {
        return variable.getType().getKind() == Tree.Kind.ARRAY_TYPE;
    }

    private static int countNewArrays(Tree tree) {
        int[] count = {0};
        new TreeScanner<Void, Void>() {
            @Override
            public Void visitNewArray(NewArrayTree made, Void none) {
                count[0]++;
                return super.visitNewArray(made, none);
            }
        }.scan(tree, null);
        return count[0];
    }

    private boolean isConstant(ExpressionTree length) {
        if (length instanceof LiteralTree literal) {
            return literal.getValue() instanceof Integer number && number >= 1;
        }
        return fields.stream().anyMatch(f -> isStatic(f) && f.getName().contentEquals(length.toString()));
    }

    private static boolean isStatic(VariableTree field) {
        return field.getModifiers().getFlags().contains(Modifier.STATIC);
    }

    private void staticFieldsAreConstants() {
        due.by("5. Static fields are compile-time constants of int or long alone");
        int own = 0;
        for (VariableTree field : fields) {
            if (isStatic(field)) {
                String type = field.getType().toString();
                due.same(field + " is int or long", type.equals("int") || type.equals("long"), true);
                due.same(field + " is final", field.getModifiers().getFlags().contains(Modifier.FINAL), true);
                due.same(field + " has a value", field.getInitializer() != null, true);
                due.same(field + " calls", calledIn(field).size(), 0);
            } else {
                own++;
            }
        }
        due.by("10. the class has at most some forty fields beside its constants");
        due.same("at most forty fields", own <= 40, true);
    }

    private void loopsEnd() {
        due.by("8. Every loop has an end that can be seen from its own lines");
        new TreeScanner<Void, Void>() {
            @Override
            public Void visitForLoop(ForLoopTree loop, Void none) {
                due.same("the loop in line " + line(loop) + " ends", ends(loop), true);
                return super.visitForLoop(loop, none);
            }
        }.scan(program, null);
    }

    /** A counter of its own goes by one towards a bound, and the body changes neither of them. */
    private static boolean ends(ForLoopTree loop) {
        if (loop.getInitializer().size() != 1 || loop.getUpdate().size() != 1
                || !(loop.getInitializer().get(0) instanceof VariableTree counter)
                || !(loop.getCondition() instanceof BinaryTree condition)) {
            return false;
        }
        ExpressionTree step = ((ExpressionStatementTree) loop.getUpdate().get(0)).getExpression();
        String name = counter.getName().toString();
        boolean up = step.getKind() == Tree.Kind.POSTFIX_INCREMENT
                && EnumSet.of(Tree.Kind.LESS_THAN, Tree.Kind.LESS_THAN_EQUAL).contains(condition.getKind());
        boolean down = step.getKind() == Tree.Kind.POSTFIX_DECREMENT
                && EnumSet.of(Tree.Kind.GREATER_THAN, Tree.Kind.GREATER_THAN_EQUAL).contains(condition.getKind());
        if (!up && !down || !((UnaryTree) step).getExpression().toString().equals(name)) {
            return false;
        }
        Set<String> changed = assigned(loop.getStatement());
        ExpressionTree bound = condition.getRightOperand();
        return condition.getLeftOperand().toString().equals(name) && !changed.contains(name)
                && (bound instanceof LiteralTree || bound instanceof IdentifierTree)
                && !changed.contains(bound.toString());
    }

    /** The names of the plain variables, not of the elements of arrays, that are given a value. */
    private static Set<String> assigned(Tree tree) {
        Set<String> names = new LinkedHashSet<>();
        new TreeScanner<Void, Void>() {
            @Override
            public Void visitAssignment(AssignmentTree a, Void none) {
                names.add(a.getVariable().toString());
                return super.visitAssignment(a, none);
            }

            @Override
            public Void visitCompoundAssignment(CompoundAssignmentTree a, Void none) {
                names.add(a.getVariable().toString());
                return super.visitCompoundAssignment(a, none);
            }

            @Override
            public Void visitUnary(UnaryTree u, Void none) {
                names.add(u.getKind().toString().matches(".*(IN|DE)CREMENT") ? u.getExpression().toString() : "");
                return super.visitUnary(u, none);
            }
        }.scan(tree, null);
        return names;
    }

    private static List<MethodInvocationTree> calledIn(Tree tree) {
        List<MethodInvocationTree> calls = new ArrayList<>();
        new TreeScanner<Void, Void>() {
            @Override
            public Void visitMethodInvocation(MethodInvocationTree call, Void none) {
                calls.add(call);
                return super.visitMethodInvocation(call, none);
            }
        }.scan(tree, null);
        return calls;
    }

    private void callsAreNotNested() {
        due.by("10. no call stands inside the arguments of another call");
        for (MethodInvocationTree call : calledIn(program)) {
            for (ExpressionTree argument : call.getArguments()) {
                due.same(call + " in line " + line(call), calledIn(argument).size(), 0);
            }
        }
        due.by("10. A method takes at most seven parameters");
        for (MethodTree method : methods.values()) {
            due.same(method.getName() + " takes at most seven", method.getParameters().size() <= 7, true);
        }
    }

    private void callsEndAndAreNotDeep() {
        due.by("8. No recursion; 10. calls go at most six deep");
        for (String name : methods.keySet()) {
            due.same(name + " is at most six deep", depth(name, new ArrayList<>()) <= 6, true);
        }
    }

    /** How many methods are at work at once at most, this one counted; a thousand if one calls itself. */
    private int depth(String name, List<String> callers) {
        if (callers.contains(name)) {
            return 1000;
        }
        callers.add(name);
        int deepest = 0;
        for (MethodInvocationTree call : calledIn(methods.get(name).getBody())) {
            String called = call.getMethodSelect().toString();
            boolean own = methods.containsKey(called);
            due.same(called + " is of the class", own, true);
            deepest = own ? Math.max(deepest, depth(called, callers)) : deepest;
        }
        callers.remove(name);
        return deepest + 1;
    }

    private void methodsAreShort() {
        due.by("10. Methods stay short (some sixty lines)");
        for (MethodTree method : methods.values()) {
            BlockTree body = method.getBody();
            long end = unit.getLineMap().getLineNumber(trees.getSourcePositions().getEndPosition(unit, body));
            due.same(method.getName() + " has at most sixty lines", end - line(method) < 60, true);
        }
    }

    private long line(Tree tree) {
        return unit.getLineMap().getLineNumber(trees.getSourcePositions().getStartPosition(unit, tree));
    }
}
