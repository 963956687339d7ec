import com.sun.source.tree.ArrayTypeTree;
import com.sun.source.tree.ClassTree;
import com.sun.source.tree.CompilationUnitTree;
import com.sun.source.tree.ExpressionTree;
import com.sun.source.tree.IdentifierTree;
import com.sun.source.tree.LiteralTree;
import com.sun.source.tree.MethodInvocationTree;
import com.sun.source.tree.MethodTree;
import com.sun.source.tree.NewArrayTree;
import com.sun.source.tree.PrimitiveTypeTree;
import com.sun.source.tree.Tree;
import com.sun.source.tree.Tree.Kind;
import com.sun.source.tree.TypeCastTree;
import com.sun.source.tree.VariableTree;
import com.sun.source.util.JavacTask;
import com.sun.source.util.SourcePositions;
import com.sun.source.util.TreeScanner;
import com.sun.source.util.Trees;
import java.io.File;
import java.io.IOException;
import java.util.EnumSet;
import java.util.HashMap;
import java.util.HashSet;
import java.util.List;
import java.util.Map;
import java.util.Set;
import javax.lang.model.element.Modifier;
import javax.lang.model.type.TypeKind;
import javax.tools.JavaCompiler;
import javax.tools.StandardJavaFileManager;
import javax.tools.ToolProvider;

/**
 * What a program can easily see of the rules of LANGUAGE.md, each fault with the rule's number. Left to a reader:
 * how local arrays are used (4), that no index leaves its array (7) and that every loop ends (8).
 */
public final class LanguageTest extends TreeScanner<Void, Void> {
    private static final File SOURCE = new File("src/main/java/CourseMonitor.java");
    private static final Set<TypeKind> NUMBERS = EnumSet.of(TypeKind.INT, TypeKind.LONG, TypeKind.SHORT,
        TypeKind.BYTE, TypeKind.CHAR, TypeKind.BOOLEAN, TypeKind.VOID);
    private static final Set<Kind> LITERALS = EnumSet.of(Kind.INT_LITERAL, Kind.LONG_LITERAL, Kind.CHAR_LITERAL,
        Kind.BOOLEAN_LITERAL);
    // Rule 3: without a dot neither a library class nor one of another object's methods can be named.
    private static final Map<Kind, Integer> RULED_OUT = Map.ofEntries(
        Map.entry(Kind.NEW_CLASS, 2), Map.entry(Kind.MEMBER_SELECT, 3), Map.entry(Kind.THROW, 6),
        Map.entry(Kind.TRY, 6), Map.entry(Kind.SYNCHRONIZED, 6), Map.entry(Kind.ASSERT, 6),
        Map.entry(Kind.INSTANCE_OF, 6), Map.entry(Kind.LAMBDA_EXPRESSION, 6), Map.entry(Kind.MEMBER_REFERENCE, 6));

    private final CompilationUnitTree unit;
    private final SourcePositions positions;
    private final Map<String, Set<String>> calls = new HashMap<>();
    private final Set<String> constants = new HashSet<>();
    private String method = "";

    private LanguageTest(CompilationUnitTree unit, SourcePositions positions) {
        this.unit = unit;
        this.positions = positions;
    }

    public static void main(String[] args) throws IOException {
        JavaCompiler compiler = ToolProvider.getSystemJavaCompiler();
        try (StandardJavaFileManager files = compiler.getStandardFileManager(null, null, null)) {
            JavacTask task = (JavacTask) compiler.getTask(null, files, null, List.of("--release", "17"), null,
                files.getJavaFileObjects(SOURCE));
            CompilationUnitTree unit = task.parse().iterator().next();
            new LanguageTest(unit, Trees.instance(task).getSourcePositions()).rules();
        }
        Checks.finish();
    }

    private void rules() {
        Checks.due("1: package lines", unit.getPackage() == null, true);
        Checks.due("1: classes in the file", unit.getTypeDecls().size(), 1);
        Checks.due("3: imports", unit.getImports().size(), 0);
        ClassTree program = (ClassTree) unit.getTypeDecls().get(0);
        Checks.due("2: nothing is extended", program.getExtendsClause() == null, true);
        Checks.due("2: interfaces", program.getImplementsClause().size(), 0);
        int fields = 0;
        for (Tree member : program.getMembers()) {
            Kind kind = member.getKind();
            Checks.due("1, 5: a field or a method: " + kind, kind == Kind.VARIABLE || kind == Kind.METHOD, true);
            if (kind == Kind.VARIABLE) {
                fields += field((VariableTree) member);
            }
        }
        for (Tree member : program.getMembers()) {
            scan(member, null);
        }
        Checks.due("10: fields, " + fields + ", at most 40", fields <= 40, true);
        for (String name : calls.keySet()) {
            deep(name, 1);
        }
    }

    /** Answers 1 for a field beside the constants. */
    private int field(VariableTree field) {
        boolean isConstant = field.getModifiers().getFlags().contains(Modifier.STATIC);
        boolean isArray = field.getType().getKind() == Kind.ARRAY_TYPE;
        boolean isFinal = field.getModifiers().getFlags().contains(Modifier.FINAL);
        if (isConstant) {
            constants.add(field.getName().toString());
            String type = field.getType().toString();
            Checks.due("5: int or long: " + field, type.equals("int") || type.equals("long"), true);
            Checks.due("5: final and given: " + field, isFinal && field.getInitializer() != null, true);
            Checks.due("5: known when compiled: " + field, callsIn(field.getInitializer()), 0);
        }
        if (isArray) {
            Checks.due("4: no method assigns to it: " + field, isFinal, true);
            Checks.due("4: made at once: " + field, field.getInitializer() instanceof NewArrayTree, true);
        }
        return isConstant ? 0 : 1;
    }

    // Each path is followed to its end; a method that calls itself would go deeper than six.
    private void deep(String name, int depth) {
        Checks.due("8, 10: " + name + " is " + depth + " deep, at most 6", depth <= 6, true);
        for (String called : depth <= 6 ? calls.getOrDefault(name, Set.of()) : Set.<String>of()) {
            Checks.due("3: a method of the class: " + called, calls.containsKey(called), true);
            deep(called, depth + 1);
        }
    }

    @Override
    public Void scan(Tree tree, Void nothing) {
        if (tree != null) {
            Integer rule = RULED_OUT.get(tree.getKind());
            Checks.due(rule + ": " + tree, rule == null, true);
            if (tree instanceof ClassTree) {
                Checks.due("1: nested: " + tree, false, true);
            }
        }
        return super.scan(tree, nothing);
    }

    @Override
    public Void visitMethod(MethodTree tree, Void nothing) {
        method = tree.getName().toString();
        Checks.due("a name for each method: " + method, calls.containsKey(method), false);
        calls.put(method, new HashSet<>());
        Checks.due("10: parameters of " + method, tree.getParameters().size() <= 7, true);
        Checks.due("6: throws of " + method, tree.getThrows().size(), 0);
        Tree answered = tree.getReturnType();
        Checks.due("4: answers no array: " + method, answered instanceof ArrayTypeTree, false);
        long lines = line(positions.getEndPosition(unit, tree)) - line(positions.getStartPosition(unit, tree)) + 1;
        Checks.due("10: lines of " + method + ", " + lines, lines <= 60, true);
        super.visitMethod(tree, nothing);
        method = "";
        return null;
    }

    private long line(long position) {
        return unit.getLineMap().getLineNumber(position);
    }

    @Override
    public Void visitVariable(VariableTree tree, Void nothing) {
        Tree type = tree.getType();
        boolean isArray = type instanceof ArrayTypeTree;
        Tree element = isArray ? ((ArrayTypeTree) type).getType() : type;
        Checks.due("2: a number or an array of them: " + tree, element instanceof PrimitiveTypeTree, true);
        return super.visitVariable(tree, nothing);
    }

    @Override
    public Void visitPrimitiveType(PrimitiveTypeTree tree, Void nothing) {
        Checks.due("2: " + tree, NUMBERS.contains(tree.getPrimitiveTypeKind()), true);
        return super.visitPrimitiveType(tree, nothing);
    }

    @Override
    public Void visitLiteral(LiteralTree tree, Void nothing) {
        Checks.due("2, 4: " + tree, LITERALS.contains(tree.getKind()), true);
        return super.visitLiteral(tree, nothing);
    }

    @Override
    public Void visitTypeCast(TypeCastTree tree, Void nothing) {
        Checks.due("6: " + tree, tree.getType() instanceof PrimitiveTypeTree, true);
        return super.visitTypeCast(tree, nothing);
    }

    @Override
    public Void visitNewArray(NewArrayTree tree, Void nothing) {
        Checks.due("4: in a field's initialiser: " + tree, method.isEmpty(), true);
        Checks.due("4: one length: " + tree, tree.getInitializers() == null && tree.getDimensions().size() == 1, true);
        for (ExpressionTree length : tree.getDimensions()) {
            boolean isConstant = length instanceof IdentifierTree && constants.contains(length.toString());
            Checks.due("4: literal or constant: " + tree, isConstant || length.getKind() == Kind.INT_LITERAL, true);
        }
        return super.visitNewArray(tree, nothing);
    }

    @Override
    public Void visitMethodInvocation(MethodInvocationTree tree, Void nothing) {
        for (ExpressionTree argument : tree.getArguments()) {
            Checks.due("10: a call inside a call: " + tree, callsIn(argument), 0);
        }
        calls.computeIfAbsent(method, none -> new HashSet<>()).add(tree.getMethodSelect().toString());
        return super.visitMethodInvocation(tree, nothing);
    }

    private static int callsIn(ExpressionTree expression) {
        int[] found = {0};
        new TreeScanner<Void, Void>() {
            @Override
            public Void visitMethodInvocation(MethodInvocationTree tree, Void nothing) {
                found[0]++;
                return super.visitMethodInvocation(tree, nothing);
            }
        }.scan(expression, null);
        return found[0];
    }
}
