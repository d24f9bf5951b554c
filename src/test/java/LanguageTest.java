import com.sun.source.tree.ArrayAccessTree;
import com.sun.source.tree.ArrayTypeTree;
import com.sun.source.tree.BinaryTree;
import com.sun.source.tree.BlockTree;
import com.sun.source.tree.ClassTree;
import com.sun.source.tree.CompilationUnitTree;
import com.sun.source.tree.DoWhileLoopTree;
import com.sun.source.tree.ExpressionStatementTree;
import com.sun.source.tree.ExpressionTree;
import com.sun.source.tree.ForLoopTree;
import com.sun.source.tree.IdentifierTree;
import com.sun.source.tree.LiteralTree;
import com.sun.source.tree.MemberSelectTree;
import com.sun.source.tree.MethodInvocationTree;
import com.sun.source.tree.MethodTree;
import com.sun.source.tree.NewArrayTree;
import com.sun.source.tree.NewClassTree;
import com.sun.source.tree.PrimitiveTypeTree;
import com.sun.source.tree.Tree;
import com.sun.source.tree.TypeCastTree;
import com.sun.source.tree.UnaryTree;
import com.sun.source.tree.VariableTree;
import com.sun.source.tree.WhileLoopTree;
import com.sun.source.util.JavacTask;
import com.sun.source.util.SourcePositions;
import com.sun.source.util.TreeScanner;
import com.sun.source.util.Trees;
import java.io.IOException;
import java.nio.file.Path;
import java.util.Map;
import java.util.Set;
import java.util.TreeMap;
import java.util.TreeSet;
import javax.lang.model.element.Modifier;
import javax.lang.model.type.TypeKind;
import javax.tools.JavaCompiler;
import javax.tools.StandardJavaFileManager;
import javax.tools.ToolProvider;

/**
 * The rules of LANGUAGE.md, by their numbers, as far as they can be read off the source; FaceTest looks at the open
 * members. Where a rule leaves more room than the class uses (arrays made in fields alone and never handed on, loops
 * that are all counting ones), the narrower form is asked for, because it is the one that is plain to check.
 */
public final class LanguageTest extends TreeScanner<Void, Void> {
    private static final String SOURCE = "src/main/java/ReorderCore.java";
    private static final int MOST_PARAMETERS = 7;
    private static final int MOST_LINES = 60;
    private static final int MOST_DEPTH = 6;
    private static final int MOST_FIELDS = 40;
    /** Rule 7 speaks of any state, so an object is also called far more often than the document's 512 times. */
    private static final int CALLS = 300000;
    private static final int[] ARGUMENTS = {0, 1, 2, 3, 4, 5, 6, 7, 8, 9, 15, 16, 63, 64, 200, 201, -1,
        Integer.MAX_VALUE, Integer.MIN_VALUE};

    private static final Set<TypeKind> NUMBERS = Set.of(TypeKind.INT, TypeKind.LONG, TypeKind.SHORT, TypeKind.BYTE,
        TypeKind.CHAR, TypeKind.BOOLEAN);
    private static final Set<Tree.Kind> OTHER_LITERALS = Set.of(Tree.Kind.STRING_LITERAL, Tree.Kind.FLOAT_LITERAL,
        Tree.Kind.DOUBLE_LITERAL, Tree.Kind.NULL_LITERAL);
    private static final Set<Tree.Kind> RULED_OUT = Set.of(Tree.Kind.THROW, Tree.Kind.TRY, Tree.Kind.CATCH,
        Tree.Kind.SYNCHRONIZED, Tree.Kind.ASSERT, Tree.Kind.INSTANCE_OF, Tree.Kind.LAMBDA_EXPRESSION,
        Tree.Kind.MEMBER_REFERENCE);

    private static int wrong = 0;

    private final CompilationUnitTree unit;
    private final SourcePositions positions;
    private final Map<String, Set<String>> callsOf = new TreeMap<>();
    private final Set<String> constants = new TreeSet<>();
    private final Set<String> arrays = new TreeSet<>();
    private String method = "";
    private boolean inArguments = false;
    private int fields = 0;
    private int classes = 0;

    private LanguageTest(CompilationUnitTree unit, SourcePositions positions) {
        this.unit = unit;
        this.positions = positions;
    }

    private static void report(int number, String what) {
        wrong++;
        System.out.println("rule " + number + ": " + what);
    }

    private void rule(int number, boolean kept, Tree at) {
        if (!kept) {
            long line = unit.getLineMap().getLineNumber(positions.getStartPosition(unit, at));
            report(number, "line " + line + ": " + at.toString().strip());
        }
    }

    private static boolean isNumber(Tree type) {
        return type instanceof PrimitiveTypeTree primitive && NUMBERS.contains(primitive.getPrimitiveTypeKind());
    }

    private static boolean isArray(Tree type) {
        return type instanceof ArrayTypeTree array && isNumber(array.getType());
    }

    private static boolean isVoid(Tree type) {
        return type instanceof PrimitiveTypeTree primitive && primitive.getPrimitiveTypeKind() == TypeKind.VOID;
    }

    private static boolean isName(Tree tree, Set<String> names) {
        return tree instanceof IdentifierTree name && names.contains(name.getName().toString());
    }

    @Override
    public Void scan(Tree tree, Void none) {
        if (tree != null) {
            rule(2, !OTHER_LITERALS.contains(tree.getKind()), tree);
            rule(6, !RULED_OUT.contains(tree.getKind()), tree);
        }
        return super.scan(tree, none);
    }

    @Override
    public Void visitCompilationUnit(CompilationUnitTree tree, Void none) {
        rule(1, tree.getPackageName() == null, tree);
        rule(3, tree.getImports().isEmpty(), tree);
        return super.visitCompilationUnit(tree, none);
    }

    @Override
    public Void visitClass(ClassTree tree, Void none) {
        classes++;
        rule(1, classes == 1 && tree.getKind() == Tree.Kind.CLASS, tree);
        rule(3, tree.getExtendsClause() == null && tree.getImplementsClause().isEmpty(), tree);
        for (Tree member : tree.getMembers()) {
            rule(5, !(member instanceof BlockTree), member);
            if (member instanceof VariableTree field) {
                noteField(field);
            }
        }
        return super.visitClass(tree, none);
    }

    private void noteField(VariableTree field) {
        Set<Modifier> modifiers = field.getModifiers().getFlags();
        String name = field.getName().toString();
        if (modifiers.contains(Modifier.STATIC)) {
            rule(5, modifiers.contains(Modifier.FINAL) && isNumber(field.getType()), field);
            rule(5, isConstant(field.getInitializer()), field);
            constants.add(name);
            return;
        }
        fields++;
        if (isArray(field.getType())) {
            rule(4, modifiers.contains(Modifier.FINAL) && field.getInitializer() instanceof NewArrayTree, field);
            arrays.add(name);
        }
    }

    private static boolean isConstant(ExpressionTree value) {
        boolean negative = value instanceof UnaryTree && value.getKind() == Tree.Kind.UNARY_MINUS;
        return (negative ? ((UnaryTree) value).getExpression() : value) instanceof LiteralTree;
    }

    @Override
    public Void visitVariable(VariableTree tree, Void none) {
        boolean isField = method.isEmpty();
        rule(2, isNumber(tree.getType()) || isField && isArray(tree.getType()), tree);
        return super.visitVariable(tree, none);
    }

    @Override
    public Void visitMethod(MethodTree tree, Void none) {
        method = tree.getName().toString();
        rule(1, !callsOf.containsKey(method), tree);
        callsOf.put(method, new TreeSet<>());
        Tree answer = tree.getReturnType();
        rule(2, answer == null || isVoid(answer) || isNumber(answer), tree);
        rule(10, tree.getParameters().size() <= MOST_PARAMETERS, tree);
        long first = unit.getLineMap().getLineNumber(positions.getStartPosition(unit, tree));
        long last = unit.getLineMap().getLineNumber(positions.getEndPosition(unit, tree));
        rule(10, last - first < MOST_LINES, tree);
        super.visitMethod(tree, none);
        method = "";
        return null;
    }

    @Override
    public Void visitMethodInvocation(MethodInvocationTree tree, Void none) {
        rule(10, !inArguments, tree);
        rule(3, tree.getMethodSelect() instanceof IdentifierTree, tree);
        if (!method.isEmpty()) {
            callsOf.get(method).add(tree.getMethodSelect().toString());
        }
        boolean before = inArguments;
        inArguments = true;
        scan(tree.getArguments(), none);
        inArguments = before;
        return null;
    }

    @Override
    public Void visitMemberSelect(MemberSelectTree tree, Void none) {
        rule(3, false, tree);
        return super.visitMemberSelect(tree, none);
    }

    @Override
    public Void visitNewClass(NewClassTree tree, Void none) {
        rule(4, false, tree);
        return super.visitNewClass(tree, none);
    }

    @Override
    public Void visitNewArray(NewArrayTree tree, Void none) {
        rule(4, method.isEmpty() && tree.getInitializers() == null && tree.getDimensions().size() == 1, tree);
        for (ExpressionTree length : tree.getDimensions()) {
            rule(4, length instanceof LiteralTree || isName(length, constants), tree);
        }
        return super.visitNewArray(tree, none);
    }

    @Override
    public Void visitArrayAccess(ArrayAccessTree tree, Void none) {
        rule(4, isName(tree.getExpression(), arrays), tree);
        return scan(tree.getIndex(), none);
    }

    /** An array's name that does not stand before an index: the array itself would be handed on or compared. */
    @Override
    public Void visitIdentifier(IdentifierTree tree, Void none) {
        rule(4, !isName(tree, arrays), tree);
        return super.visitIdentifier(tree, none);
    }

    @Override
    public Void visitTypeCast(TypeCastTree tree, Void none) {
        rule(6, isNumber(tree.getType()), tree);
        return super.visitTypeCast(tree, none);
    }

    @Override
    public Void visitForLoop(ForLoopTree tree, Void none) {
        boolean counts = tree.getInitializer().size() == 1 && tree.getUpdate().size() == 1
            && tree.getInitializer().get(0) instanceof VariableTree counter
            && isBound(tree.getCondition(), Set.of(counter.getName().toString()))
            && isStep(tree.getUpdate().get(0), Set.of(counter.getName().toString()));
        rule(8, counts, tree);
        return super.visitForLoop(tree, none);
    }

    private static boolean isBound(ExpressionTree condition, Set<String> counter) {
        return condition instanceof BinaryTree compares && isName(compares.getLeftOperand(), counter)
            && Set.of(Tree.Kind.LESS_THAN, Tree.Kind.GREATER_THAN_EQUAL).contains(compares.getKind());
    }

    private static boolean isStep(ExpressionStatementTree update, Set<String> counter) {
        return update.getExpression() instanceof UnaryTree step && isName(step.getExpression(), counter);
    }

    @Override
    public Void visitWhileLoop(WhileLoopTree tree, Void none) {
        rule(8, false, tree);
        return super.visitWhileLoop(tree, none);
    }

    @Override
    public Void visitDoWhileLoop(DoWhileLoopTree tree, Void none) {
        rule(8, false, tree);
        return super.visitDoWhileLoop(tree, none);
    }

    private void checkWhole() {
        if (fields > MOST_FIELDS) {
            report(10, fields + " fields");
        }
        for (String name : callsOf.keySet()) {
            checkCallsFrom(name);
        }
    }

    /** Each round goes one call deeper, so methods that call themselves in a ring are too deep as well. */
    private void checkCallsFrom(String name) {
        Set<String> reached = Set.of(name);
        for (int depth = 1; depth <= MOST_DEPTH; depth++) {
            Set<String> deeper = new TreeSet<>();
            for (String from : reached) {
                Set<String> called = callsOf.get(from);
                if (called == null) {
                    report(3, "a call of " + from + ", which the class does not have");
                    return;
                }
                deeper.addAll(called);
            }
            reached = deeper;
        }
        if (!reached.isEmpty()) {
            report(10, "calls from " + name + " go deeper than " + MOST_DEPTH + ", or in a ring (rule 8): " + reached);
        }
    }

    private static void checkSource() throws IOException {
        JavaCompiler compiler = ToolProvider.getSystemJavaCompiler();
        try (StandardJavaFileManager files = compiler.getStandardFileManager(null, null, null)) {
            JavacTask task = (JavacTask) compiler.getTask(null, files, null, null, null,
                files.getJavaFileObjects(Path.of(SOURCE)));
            for (CompilationUnitTree unit : task.parse()) {
                LanguageTest test = new LanguageTest(unit, Trees.instance(task).getSourcePositions());
                test.scan(unit, null);
                test.checkWhole();
            }
        }
    }

    private static void callOne(ReorderCore x, int which, int i, int j, int k) {
        switch (which) {
            case 0 -> x.set(i, j);
            case 1 -> x.start(i);
            case 2 -> x.register(i);
            case 3 -> x.memory(i);
            case 4 -> x.digest();
            case 5 -> x.finish(i);
            case 6 -> x.clear();
            default -> x.emit(i, j, k);
        }
    }

    private static void checkAnyCall() {
        ReorderCore x = new ReorderCore();
        long seed = 1;
        for (int call = 0; call < CALLS; call++) {
            int[] picked = new int[4];
            for (int p = 0; p < picked.length; p++) {
                seed = seed * 6364136223846793005L + 1442695040888963407L;
                picked[p] = (int) ((seed >>> 33) % ARGUMENTS.length);
            }
            int i = ARGUMENTS[picked[1]];
            int j = ARGUMENTS[picked[2]];
            int k = ARGUMENTS[picked[3]];
            try {
                callOne(x, picked[0], i, j, k);
            } catch (RuntimeException thrown) {
                report(7, "call " + call + ", kind " + picked[0] + " (" + i + ", " + j + ", " + k + "): " + thrown);
                return;
            }
        }
    }

    public static void main(String[] args) throws IOException {
        checkSource();
        checkAnyCall();
        System.out.println(wrong == 0 ? "the rules are kept" : wrong + " breaks of the rules");
        if (wrong != 0) {
            System.exit(1);
        }
    }
}
