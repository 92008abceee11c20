import com.sun.source.tree.*;
import com.sun.source.util.JavacTask;
import com.sun.source.util.SourcePositions;
import com.sun.source.util.TreeScanner;
import com.sun.source.util.Trees;
import java.io.File;
import java.io.IOException;
import java.util.EnumSet;
import java.util.HashSet;
import java.util.List;
import java.util.Map;
import java.util.Set;
import java.util.TreeMap;
import java.util.TreeSet;
import javax.lang.model.element.Modifier;
import javax.tools.JavaCompiler;
import javax.tools.StandardJavaFileManager;
import javax.tools.ToolProvider;

/**
 * What can be seen of LANGUAGE.md in the class's syntax, told by the rule's number. It is stricter than the
 * rules where that is plainer: arrays are made in field initialisers alone and no local variable names one,
 * all loops are for loops, and no expression has a dot. That indices and divisors are looked at (7) and that
 * a loop's bound is high enough (8) is left to the reader.
 */
public final class LanguageTest extends TreeScanner<Void, Void> {
    private static final String SOURCE = "src/main/java/RationalFormulas.java";
    private static final int MAX_PARAMETERS = 7;
    private static final int MAX_LINES = 60;
    private static final int MAX_DEPTH = 6;
    private static final int MAX_FIELDS = 40;

    /** What the class may be made of; all else, such as null, a String, a dot or try, is told as a breach of 9. */
    private static final Set<Tree.Kind> ALLOWED = EnumSet.of(
            Tree.Kind.COMPILATION_UNIT, Tree.Kind.CLASS, Tree.Kind.MODIFIERS, Tree.Kind.VARIABLE,
            Tree.Kind.METHOD, Tree.Kind.PRIMITIVE_TYPE, Tree.Kind.ARRAY_TYPE, Tree.Kind.NEW_ARRAY,
            Tree.Kind.BLOCK, Tree.Kind.IF, Tree.Kind.FOR_LOOP, Tree.Kind.RETURN,
            Tree.Kind.EXPRESSION_STATEMENT, Tree.Kind.ASSIGNMENT, Tree.Kind.POSTFIX_INCREMENT,
            Tree.Kind.POSTFIX_DECREMENT, Tree.Kind.IDENTIFIER, Tree.Kind.INT_LITERAL, Tree.Kind.BOOLEAN_LITERAL,
            Tree.Kind.ARRAY_ACCESS, Tree.Kind.METHOD_INVOCATION, Tree.Kind.PARENTHESIZED,
            Tree.Kind.CONDITIONAL_EXPRESSION, Tree.Kind.CONDITIONAL_AND, Tree.Kind.CONDITIONAL_OR,
            Tree.Kind.LOGICAL_COMPLEMENT, Tree.Kind.UNARY_MINUS, Tree.Kind.PLUS, Tree.Kind.MINUS,
            Tree.Kind.MULTIPLY, Tree.Kind.REMAINDER, Tree.Kind.EQUAL_TO, Tree.Kind.NOT_EQUAL_TO,
            Tree.Kind.LESS_THAN, Tree.Kind.LESS_THAN_EQUAL, Tree.Kind.GREATER_THAN, Tree.Kind.GREATER_THAN_EQUAL);

    private final CompilationUnitTree unit;
    private final SourcePositions positions;
    private final Map<String, Set<String>> callsOf = new TreeMap<>();
    private final Set<String> publicNames = new HashSet<>();
    private final Set<String> privateNames = new HashSet<>();
    private final Set<String> arrayNames = new HashSet<>();
    private String method = "";
    private List<? extends VariableTree> parameters = List.of();
    private int fields = 0;
    private int wrong = 0;

    private LanguageTest(CompilationUnitTree unit, SourcePositions positions) {
        this.unit = unit;
        this.positions = positions;
    }

    public static void main(String[] args) throws IOException {
        JavaCompiler compiler = ToolProvider.getSystemJavaCompiler();
        try (StandardJavaFileManager files = compiler.getStandardFileManager(null, null, null)) {
            JavacTask task = (JavacTask) compiler.getTask(
                    null, files, null, List.of("-proc:none"), null, files.getJavaFileObjects(new File(SOURCE)));
            CompilationUnitTree unit = task.parse().iterator().next();
            new LanguageTest(unit, Trees.instance(task).getSourcePositions()).run();
        }
    }

    private void run() {
        scan(unit, null);
        method = "";
        lookAtNames();
        lookAtCallDepth();
        due(1, unit.getTypeDecls().size() == 1, "the file has not one type alone");
        due(3, unit.getImports().isEmpty(), "the file imports");
        due(10, fields <= MAX_FIELDS, fields + " fields");
        System.out.println(wrong == 0 ? "the class keeps to the language" : wrong + " breaches of the language");
        if (wrong != 0) {
            System.exit(1);
        }
    }

    private void due(int rule, boolean kept, String breach) {
        if (!kept) {
            wrong++;
            System.out.println("rule " + rule + (method.isEmpty() ? "" : ", in " + method) + ": " + breach);
        }
    }

    @Override
    public Void scan(Tree tree, Void none) {
        if (tree != null && !ALLOWED.contains(tree.getKind())) {
            due(9, false, tree.getKind() + " is not among what the class is made of: " + tree);
        }
        return super.scan(tree, none);
    }

    // Declarations

    @Override
    public Void visitClass(ClassTree tree, Void none) {
        due(1, tree.getSimpleName().contentEquals("RationalFormulas"), "a type " + tree.getSimpleName());
        due(3, tree.getExtendsClause() == null && tree.getImplementsClause().isEmpty(), "a type above the class");
        for (Tree member : tree.getMembers()) {
            due(5, member.getKind() != Tree.Kind.BLOCK, "an initialiser block");
            if (member.getKind() == Tree.Kind.VARIABLE) {
                lookAtField((VariableTree) member);
            }
        }
        return super.visitClass(tree, none);
    }

    private void lookAtField(VariableTree field) {
        Set<Modifier> flags = field.getModifiers().getFlags();
        String type = field.getType().toString();
        if (flags.contains(Modifier.STATIC)) {
            due(5, flags.contains(Modifier.FINAL) && Set.of("int", "long").contains(type), "static " + field);
        } else {
            fields++;
            boolean isMadeOnce = flags.contains(Modifier.FINAL) && field.getInitializer() instanceof NewArrayTree;
            due(4, isMadeOnce || !type.endsWith("[]"), "not made once: " + field);
        }
    }

    @Override
    public Void visitVariable(VariableTree tree, Void none) {
        String type = tree.getType().toString();
        due(2, Set.of("int", "long", "boolean", "int[]", "long[]").contains(type), "the type of " + tree);
        if (type.endsWith("[]")) {
            arrayNames.add(tree.getName().toString());
            due(4, method.isEmpty() || parameters.contains(tree), "a local variable names an array: " + tree);
        }
        return super.visitVariable(tree, none);
    }

    @Override
    public Void visitMethod(MethodTree tree, Void none) {
        method = tree.getName().toString();
        boolean isPublic = tree.getModifiers().getFlags().contains(Modifier.PUBLIC);
        boolean isNew = (isPublic ? publicNames : privateNames).add(method);
        due(10, isNew, "two methods of one name, which the look at the calls would mix up");
        callsOf.put(method, new TreeSet<>());
        String type = tree.getReturnType() == null ? "void" : tree.getReturnType().toString();
        due(2, Set.of("int", "long", "boolean", "void").contains(type), "answers " + type);
        due(3, tree.getThrows().isEmpty(), "a throws clause");
        due(10, tree.getParameters().size() <= MAX_PARAMETERS, tree.getParameters().size() + " parameters");
        due(10, linesOf(tree) <= MAX_LINES, linesOf(tree) + " lines");
        Set<Modifier> plain = EnumSet.of(Modifier.PUBLIC, Modifier.PRIVATE, Modifier.STATIC);
        due(6, plain.containsAll(tree.getModifiers().getFlags()), "the modifiers " + tree.getModifiers());
        parameters = tree.getParameters();
        super.visitMethod(tree, none);
        for (VariableTree parameter : parameters) {
            arrayNames.remove(parameter.getName().toString());
        }
        method = "";
        return null;
    }

    private long linesOf(Tree tree) {
        LineMap lines = unit.getLineMap();
        long first = lines.getLineNumber(positions.getStartPosition(unit, tree));
        return lines.getLineNumber(positions.getEndPosition(unit, tree)) - first + 1;
    }

    private void lookAtNames() {
        Set<String> both = new TreeSet<>(privateNames);
        both.retainAll(publicNames);
        due(1, both.isEmpty(), "private methods with the name of a public one: " + both);
    }

    // Arrays and loops

    @Override
    public Void visitNewArray(NewArrayTree tree, Void none) {
        due(4, method.isEmpty(), "an array is made: " + tree);
        due(4, tree.getInitializers() == null && tree.getDimensions().size() == 1, "not one length: " + tree);
        return super.visitNewArray(tree, none);
    }

    @Override
    public Void visitAssignment(AssignmentTree tree, Void none) {
        due(4, !isArray(tree.getVariable()), "an array's name is assigned to: " + tree);
        return super.visitAssignment(tree, none);
    }

    @Override
    public Void visitBinary(BinaryTree tree, Void none) {
        due(4, !isArray(tree.getLeftOperand()) && !isArray(tree.getRightOperand()), "arrays compared: " + tree);
        return super.visitBinary(tree, none);
    }

    private boolean isArray(Tree tree) {
        return tree.getKind() == Tree.Kind.IDENTIFIER && arrayNames.contains(tree.toString());
    }

    @Override
    public Void visitForLoop(ForLoopTree tree, Void none) {
        boolean counts = tree.getInitializer().size() == 1 && tree.getUpdate().size() == 1;
        due(8, counts && tree.getCondition() instanceof BinaryTree, "a loop without counter or bound: " + tree);
        return super.visitForLoop(tree, none);
    }

    // Calls

    @Override
    public Void visitMethodInvocation(MethodInvocationTree tree, Void none) {
        due(5, !method.isEmpty(), "a call outside the methods: " + tree);
        callsOf.computeIfAbsent(method, name -> new TreeSet<>()).add(tree.getMethodSelect().toString());
        for (Tree argument : tree.getArguments()) {
            due(10, !argument.toString().contains("("), "a call, or brackets, inside the arguments of " + tree);
        }
        return super.visitMethodInvocation(tree, none);
    }

    private void lookAtCallDepth() {
        for (String name : callsOf.keySet()) {
            for (String called : callsOf.get(name)) {
                due(3, privateNames.contains(called), name + " calls " + called + ", no private method of the class");
            }
            due(10, !callsDeeper(name, MAX_DEPTH), name + " calls deeper than " + MAX_DEPTH + ", or itself");
        }
    }

    /** Whether a chain of calls from the method on, itself counted, has more than so many methods. */
    private boolean callsDeeper(String name, int most) {
        if (most == 0) {
            return true;
        }
        for (String called : callsOf.getOrDefault(name, Set.of())) {
            if (callsDeeper(called, most - 1)) {
                return true;
            }
        }
        return false;
    }
}
