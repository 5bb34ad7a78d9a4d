import com.sun.source.tree.ArrayAccessTree;
import com.sun.source.tree.AssertTree;
import com.sun.source.tree.BlockTree;
import com.sun.source.tree.CompilationUnitTree;
import com.sun.source.tree.DoWhileLoopTree;
import com.sun.source.tree.EnhancedForLoopTree;
import com.sun.source.tree.ExpressionTree;
import com.sun.source.tree.ForLoopTree;
import com.sun.source.tree.IdentifierTree;
import com.sun.source.tree.InstanceOfTree;
import com.sun.source.tree.LambdaExpressionTree;
import com.sun.source.tree.LiteralTree;
import com.sun.source.tree.MemberReferenceTree;
import com.sun.source.tree.MemberSelectTree;
import com.sun.source.tree.MethodInvocationTree;
import com.sun.source.tree.MethodTree;
import com.sun.source.tree.NewArrayTree;
import com.sun.source.tree.NewClassTree;
import com.sun.source.tree.SynchronizedTree;
import com.sun.source.tree.ThrowTree;
import com.sun.source.tree.Tree;
import com.sun.source.tree.TryTree;
import com.sun.source.tree.TypeCastTree;
import com.sun.source.tree.VariableTree;
import com.sun.source.tree.WhileLoopTree;
import com.sun.source.util.JavacTask;
import com.sun.source.util.TreeScanner;
import com.sun.source.util.Trees;
import java.io.IOException;
import java.lang.reflect.Field;
import java.lang.reflect.Method;
import java.lang.reflect.Modifier;
import java.nio.file.Path;
import java.util.Arrays;
import java.util.HashMap;
import java.util.HashSet;
import java.util.Map;
import java.util.Set;
import java.util.TreeSet;
import javax.tools.JavaCompiler;
import javax.tools.ToolProvider;

/** The public face of the document, and the rules of LANGUAGE.md that can be read off the class and its source. */
public final class LanguageTest {
    private static final Checks checks = new Checks();
    private static final Path SOURCE = Path.of("src/main/java/ReversiSolver.java");
    private static final Set<String> TYPES = Set.of("int", "long", "short", "byte", "char", "boolean",
        "int[]", "long[]", "short[]", "byte[]", "char[]", "boolean[]");
    private static final Map<String, Integer> CONSTANTS = Map.ofEntries(
        Map.entry("EMPTY", 0), Map.entry("BLACK", 1), Map.entry("WHITE", 2), Map.entry("PASS", 64),
        Map.entry("SOLVE_LIMIT", 6), Map.entry("OK", 0), Map.entry("ERR_RANGE", -1), Map.entry("ERR_OVER", -2),
        Map.entry("ERR_ILLEGAL", -3), Map.entry("ERR_TOO_MANY", -4), Map.entry("NO_SOLUTION", -100));
    private static final Set<String> FACE = Set.of("void reset[int]", "int setSquare[int, int]",
        "int setRow[int, int, int]", "int setSideToMove[int]", "int getSquare[int]", "int sideToMove[]",
        "int countDiscs[int]", "boolean isGameOver[]", "boolean isLegal[int]", "long legalMask[]", "int play[int]",
        "int pass[]", "int solve[]", "int solvedValue[]", "int pvLength[]", "int pvMove[int]");

    public static void main(String[] args) throws IOException, IllegalAccessException {
        classItself();
        constants();
        fields();
        methods();
        source();
        checks.finish();
    }

    private static void classItself() {
        Class<?> c = ReversiSolver.class;
        checks.due("modifiers of the class", Modifier.toString(c.getModifiers()), "public final");
        checks.due("nested classes", c.getDeclaredClasses().length, 0);
        checks.due("constructors", Arrays.toString(c.getDeclaredConstructors()), "[public ReversiSolver()]");
    }

    private static void constants() throws IllegalAccessException {
        Set<String> found = new TreeSet<>();
        for (Field f : ReversiSolver.class.getDeclaredFields()) {
            if (!Modifier.isPrivate(f.getModifiers())) {
                found.add(f.getName());
                checks.due("modifiers of " + f.getName(), Modifier.toString(f.getModifiers()), "public static final");
                checks.due("type of " + f.getName(), f.getType().getName(), "int");
                checks.due(f.getName(), f.getInt(null), CONSTANTS.getOrDefault(f.getName(), Integer.MIN_VALUE));
            }
        }
        checks.due("constants", found.toString(), new TreeSet<>(CONSTANTS.keySet()).toString());
    }

    private static void fields() {
        int beside = 0;
        for (Field f : ReversiSolver.class.getDeclaredFields()) {
            String type = f.getType().getSimpleName();
            if (Modifier.isStatic(f.getModifiers())) {
                checks.due("constant " + f.getName(), Modifier.isFinal(f.getModifiers()), true);
                checks.due("type of " + f.getName(), type.equals("int") || type.equals("long"), true);
            } else {
                beside++;
                checks.due("type of " + f.getName(), TYPES.contains(type), true);
                checks.due(f.getName() + " is private", Modifier.isPrivate(f.getModifiers()), true);
                boolean kept = !f.getType().isArray() || Modifier.isFinal(f.getModifiers());
                checks.due("array " + f.getName() + " is never another", kept, true);
            }
        }
        checks.due("at most 40 fields, here " + beside, beside <= 40, true);
    }

    private static void methods() {
        Set<String> face = new TreeSet<>();
        Set<String> names = new HashSet<>();
        for (Method m : ReversiSolver.class.getDeclaredMethods()) {
            checks.due(m.getName() + " is the only one of its name", names.add(m.getName()), true);
            checks.due("parameters of " + m.getName(), m.getParameterCount() <= 7, true);
            checks.due("array answered by " + m.getName(), m.getReturnType().isArray(), false);
            if (!Modifier.isPrivate(m.getModifiers())) {
                checks.due("modifiers of " + m.getName(), Modifier.toString(m.getModifiers()), "public");
                String[] types = Arrays.stream(m.getParameterTypes()).map(Class::getSimpleName).toArray(String[]::new);
                face.add(m.getReturnType().getSimpleName() + " " + m.getName() + Arrays.toString(types));
            }
        }
        checks.due("methods", face.toString(), new TreeSet<>(FACE).toString());
    }

    private static void source() throws IOException {
        JavaCompiler compiler = ToolProvider.getSystemJavaCompiler();
        var files = compiler.getStandardFileManager(null, null, null);
        JavacTask task = (JavacTask) compiler.getTask(null, files, null, null, null, files.getJavaFileObjects(SOURCE));
        CompilationUnitTree unit = task.parse().iterator().next();
        checks.due("imports", unit.getImports().size(), 0);
        checks.due("package line", unit.getPackage() == null, true);
        checks.due("classes in the file", unit.getTypeDecls().size(), 1);
        Rules rules = new Rules(unit, Trees.instance(task));
        rules.scan(unit, null);
        for (String method : rules.calls.keySet()) {
            int depth = rules.depthOf(method, new HashSet<>());
            checks.due("calls from " + method + " go six deep at most, here " + depth, depth <= 6, true);
        }
    }

    private static final class Rules extends TreeScanner<Void, Void> {
        private static final int TOO_DEEP = 1000;

        final Map<String, Set<String>> calls = new HashMap<>();
        private final Set<String> constants = new HashSet<>();
        private final CompilationUnitTree unit;
        private final Trees trees;
        private String method = "";
        private boolean insideArguments;

        Rules(CompilationUnitTree unit, Trees trees) {
            this.unit = unit;
            this.trees = trees;
        }

        /** How many methods stand on top of each other, the first one included; very many if they recur. */
        int depthOf(String name, Set<String> above) {
            if (!above.add(name)) {
                return TOO_DEEP;
            }
            int deepest = 0;
            for (String called : calls.getOrDefault(name, Set.of())) {
                deepest = Math.max(deepest, depthOf(called, above));
            }
            above.remove(name);
            return deepest + 1;
        }

        @Override
        public Void visitMethod(MethodTree tree, Void none) {
            method = tree.getName().toString();
            calls.put(method, new HashSet<>());
            long lines = lineOf(endOf(tree)) - lineOf(startOf(tree)) + 1;
            checks.due(method + " has sixty lines at most, here " + lines, lines <= 60, true);
            super.visitMethod(tree, none);
            method = "";
            return null;
        }

        @Override
        public Void visitMethodInvocation(MethodInvocationTree tree, Void none) {
            String call = tree.getMethodSelect().toString();
            checks.due(place(tree) + "call inside the arguments of a call", insideArguments, false);
            checks.due(place(tree) + "call of a method of its own", tree.getMethodSelect() instanceof IdentifierTree, true);
            calls.get(method).add(call);
            boolean before = insideArguments;
            insideArguments = true;
            for (ExpressionTree argument : tree.getArguments()) {
                scan(argument, none);
            }
            insideArguments = before;
            return null;
        }

        @Override
        public Void visitNewArray(NewArrayTree tree, Void none) {
            checks.due(place(tree) + "array made in a field's initialiser", method, "");
            checks.due(place(tree) + "dimensions", tree.getDimensions().size(), 1);
            checks.due(place(tree) + "array made with a length", tree.getInitializers() == null, true);
            for (ExpressionTree length : tree.getDimensions()) {
                boolean fixed = length instanceof LiteralTree || constants.contains(length.toString());
                checks.due(place(tree) + "length is a literal or a constant", fixed, true);
            }
            return super.visitNewArray(tree, none);
        }

        /** A constant's value is worked out from literals and other constants, which is what a call would break. */
        @Override
        public Void visitVariable(VariableTree tree, Void none) {
            checks.due(place(tree) + "type", TYPES.contains(tree.getType().toString()), true);
            if (tree.getModifiers().getFlags().contains(javax.lang.model.element.Modifier.STATIC)) {
                constants.add(tree.getName().toString());
                boolean constant = tree.getInitializer() != null && !tree.getInitializer().toString().contains("(");
                checks.due(place(tree) + "value of a constant", constant, true);
            }
            return super.visitVariable(tree, none);
        }

        @Override
        public Void visitTypeCast(TypeCastTree tree, Void none) {
            checks.due(place(tree) + "cast to a number", TYPES.contains(tree.getType().toString()), true);
            return super.visitTypeCast(tree, none);
        }

        @Override
        public Void visitBlock(BlockTree tree, Void none) {
            checks.due(place(tree) + "block outside a method", method.isEmpty(), false);
            return super.visitBlock(tree, none);
        }

        /** The rules allow other loops with a counter as well; the class needs none. */
        @Override
        public Void visitForLoop(ForLoopTree tree, Void none) {
            checks.due(place(tree) + "counter", tree.getInitializer().size(), 1);
            checks.due(place(tree) + "step of the counter", tree.getUpdate().size(), 1);
            String counter = ((VariableTree) tree.getInitializer().get(0)).getName().toString();
            checks.due(place(tree) + "counter goes up", tree.getUpdate().get(0).toString(), counter + "++;");
            String until = tree.getCondition() == null ? "" : tree.getCondition().toString();
            checks.due(place(tree) + "counter against a bound", until.matches(counter + " <=? [A-Z0-9_]+( && .*)?"), true);
            return super.visitForLoop(tree, none);
        }

        @Override
        public Void visitWhileLoop(WhileLoopTree tree, Void none) {
            return outside(tree, "loop without a counter");
        }

        @Override
        public Void visitDoWhileLoop(DoWhileLoopTree tree, Void none) {
            return outside(tree, "loop without a counter");
        }

        @Override
        public Void visitEnhancedForLoop(EnhancedForLoopTree tree, Void none) {
            return outside(tree, "loop without a counter");
        }

        @Override
        public Void visitLiteral(LiteralTree tree, Void none) {
            Set<Tree.Kind> kinds = Set.of(Tree.Kind.INT_LITERAL, Tree.Kind.LONG_LITERAL, Tree.Kind.BOOLEAN_LITERAL,
                Tree.Kind.CHAR_LITERAL);
            checks.due(place(tree) + "literal of a number", kinds.contains(tree.getKind()), true);
            return super.visitLiteral(tree, none);
        }

        @Override
        public Void visitArrayAccess(ArrayAccessTree tree, Void none) {
            checks.due(place(tree) + "one-dimensional access", tree.getExpression() instanceof IdentifierTree, true);
            return super.visitArrayAccess(tree, none);
        }

        @Override
        public Void visitMemberSelect(MemberSelectTree tree, Void none) {
            return outside(tree, "member of another class");
        }

        @Override
        public Void visitNewClass(NewClassTree tree, Void none) {
            return outside(tree, "new object");
        }

        @Override
        public Void visitThrow(ThrowTree tree, Void none) {
            return outside(tree, "throw");
        }

        @Override
        public Void visitTry(TryTree tree, Void none) {
            return outside(tree, "try");
        }

        @Override
        public Void visitSynchronized(SynchronizedTree tree, Void none) {
            return outside(tree, "synchronized");
        }

        @Override
        public Void visitAssert(AssertTree tree, Void none) {
            return outside(tree, "assert");
        }

        @Override
        public Void visitInstanceOf(InstanceOfTree tree, Void none) {
            return outside(tree, "instanceof");
        }

        @Override
        public Void visitLambdaExpression(LambdaExpressionTree tree, Void none) {
            return outside(tree, "lambda");
        }

        @Override
        public Void visitMemberReference(MemberReferenceTree tree, Void none) {
            return outside(tree, "method reference");
        }

        private Void outside(Tree tree, String what) {
            checks.due(place(tree) + what, "there", "absent");
            return null;
        }

        private String place(Tree tree) {
            return "line " + lineOf(startOf(tree)) + ": " + tree + ": ";
        }

        private long startOf(Tree tree) {
            return trees.getSourcePositions().getStartPosition(unit, tree);
        }

        private long endOf(Tree tree) {
            return trees.getSourcePositions().getEndPosition(unit, tree);
        }

        private long lineOf(long position) {
            return unit.getLineMap().getLineNumber(position);
        }
    }
}
