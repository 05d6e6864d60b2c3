import com.sun.source.tree.ArrayTypeTree;
import com.sun.source.tree.AssignmentTree;
import com.sun.source.tree.BinaryTree;
import com.sun.source.tree.BlockTree;
import com.sun.source.tree.ClassTree;
import com.sun.source.tree.CompilationUnitTree;
import com.sun.source.tree.CompoundAssignmentTree;
import com.sun.source.tree.ExpressionTree;
import com.sun.source.tree.ExpressionStatementTree;
import com.sun.source.tree.ForLoopTree;
import com.sun.source.tree.IdentifierTree;
import com.sun.source.tree.LiteralTree;
import com.sun.source.tree.MethodInvocationTree;
import com.sun.source.tree.MethodTree;
import com.sun.source.tree.NewArrayTree;
import com.sun.source.tree.PrimitiveTypeTree;
import com.sun.source.tree.Tree;
import com.sun.source.tree.Tree.Kind;
import com.sun.source.tree.TypeCastTree;
import com.sun.source.tree.UnaryTree;
import com.sun.source.tree.VariableTree;
import com.sun.source.util.JavacTask;
import com.sun.source.util.SourcePositions;
import com.sun.source.util.TreePathScanner;
import com.sun.source.util.TreeScanner;
import com.sun.source.util.Trees;
import java.io.IOException;
import java.util.EnumSet;
import java.util.List;
import java.util.Map;
import java.util.Set;
import java.util.TreeMap;
import java.util.TreeSet;
import javax.lang.model.element.Modifier;
import javax.lang.model.type.TypeKind;
import javax.tools.JavaCompiler;
import javax.tools.StandardJavaFileManager;
import javax.tools.ToolProvider;

// The rules of LANGUAGE.md that can be read off the source's syntax tree, told with the rule's number. Where a rule
// leaves more than the class needs, the test asks for the narrower form: arrays only in the fields' initialisers, no
// local variable that names one, no name with a dot, and every loop a for with a counter against a constant. Not read
// here: rule 7, for which RefusalsTest makes the calls, and the public face, which FaceTest has.
public final class LanguageTest extends TreePathScanner<Void, Void> {
    private static final String SOURCE = "src/main/java/MvccHeap.java";
    private static final int MOST_PARAMETERS = 7;
    private static final int MOST_LINES = 60;
    private static final int MOST_DEPTH = 6;
    private static final int MOST_FIELDS = 40;

    private static final Set<Kind> STRUCTURE = EnumSet.of(Kind.COMPILATION_UNIT, Kind.CLASS, Kind.MODIFIERS,
        Kind.VARIABLE, Kind.METHOD, Kind.BLOCK, Kind.PRIMITIVE_TYPE, Kind.ARRAY_TYPE, Kind.NEW_ARRAY);
    private static final Set<Kind> STATEMENTS = EnumSet.of(Kind.EXPRESSION_STATEMENT, Kind.EMPTY_STATEMENT, Kind.IF,
        Kind.FOR_LOOP, Kind.SWITCH, Kind.CASE, Kind.BREAK, Kind.CONTINUE, Kind.LABELED_STATEMENT, Kind.RETURN);
    private static final Set<Kind> PRIMARIES = EnumSet.of(Kind.IDENTIFIER, Kind.INT_LITERAL, Kind.LONG_LITERAL,
        Kind.CHAR_LITERAL, Kind.BOOLEAN_LITERAL, Kind.PARENTHESIZED, Kind.ARRAY_ACCESS, Kind.METHOD_INVOCATION,
        Kind.CONDITIONAL_EXPRESSION, Kind.TYPE_CAST);
    private static final Set<Kind> CONSTANT_PARTS = EnumSet.of(Kind.IDENTIFIER, Kind.INT_LITERAL, Kind.LONG_LITERAL,
        Kind.PARENTHESIZED);

    private final CompilationUnitTree unit;
    private final SourcePositions positions;
    private final Set<String> constants = new TreeSet<>();
    private final Set<String> arrayFields = new TreeSet<>();
    private final Set<String> publicMethods = new TreeSet<>();
    private final Set<String> privateMethods = new TreeSet<>();
    private final Map<String, Set<String>> calls = new TreeMap<>();
    private String method = "";
    private int breaches = 0;

    private LanguageTest(CompilationUnitTree unit, SourcePositions positions) {
        this.unit = unit;
        this.positions = positions;
    }

    private void breach(int rule, Tree at, String what) {
        breaches++;
        long line = unit.getLineMap().getLineNumber(positions.getStartPosition(unit, at));
        System.out.println("rule " + rule + ", line " + line + ": " + what);
    }

    private void ask(boolean holds, int rule, Tree at, String what) {
        if (!holds) {
            breach(rule, at, what);
        }
    }

    // ---- The file and the class

    private void file() {
        ask(unit.getPackage() == null, 1, unit, "a package line");
        ask(unit.getImports().isEmpty(), 3, unit, "an import");
        ask(unit.getTypeDecls().size() == 1, 1, unit, "not one class");
        if (unit.getTypeDecls().get(0) instanceof ClassTree) {
            ClassTree type = (ClassTree) unit.getTypeDecls().get(0);
            collect(type);
            theClass(type);
            scan(unit, null);
            callGraph(type);
        }
    }

    private void collect(ClassTree type) {
        for (Tree member : type.getMembers()) {
            if (member instanceof VariableTree) {
                VariableTree field = (VariableTree) member;
                if (isStatic(field)) {
                    constants.add(field.getName().toString());
                }
                if (field.getType().getKind() == Kind.ARRAY_TYPE) {
                    arrayFields.add(field.getName().toString());
                }
            } else if (member instanceof MethodTree) {
                MethodTree own = (MethodTree) member;
                boolean isPrivate = own.getModifiers().getFlags().contains(Modifier.PRIVATE);
                (isPrivate ? privateMethods : publicMethods).add(own.getName().toString());
            }
        }
    }

    private void theClass(ClassTree type) {
        Set<Modifier> due = EnumSet.of(Modifier.PUBLIC, Modifier.FINAL);
        ask(type.getModifiers().getFlags().equals(due), 1, type, "the class is not public and final");
        ask(type.getModifiers().getAnnotations().isEmpty(), 3, type, "an annotation");
        ask(type.getSimpleName().contentEquals("MvccHeap"), 1, type, "not the class of the document");
        ask(type.getExtendsClause() == null && type.getImplementsClause().isEmpty(), 3, type, "another class");
        int fields = 0;
        for (Tree member : type.getMembers()) {
            ask(!(member instanceof BlockTree), 5, member, "an initialiser block");
            ask(!(member instanceof ClassTree), 1, member, "a nested type");
            if (member instanceof VariableTree && !isStatic((VariableTree) member)) {
                fields++;
            }
        }
        ask(fields <= MOST_FIELDS, 10, type, fields + " fields");
        for (String name : privateMethods) {
            ask(!publicMethods.contains(name), 1, type, "a private method with the public name " + name);
        }
    }

    // ---- Every node

    @Override
    public Void scan(Tree tree, Void none) {
        if (tree != null) {
            Kind kind = tree.getKind();
            boolean isOperator = tree instanceof BinaryTree || tree instanceof UnaryTree
                || tree instanceof AssignmentTree || tree instanceof CompoundAssignmentTree;
            boolean isKnown = STRUCTURE.contains(kind) || STATEMENTS.contains(kind) || PRIMARIES.contains(kind);
            ask(isOperator || isKnown, 6, tree, "outside of the part of Java that the class uses: " + kind);
        }
        return super.scan(tree, none);
    }

    @Override
    public Void visitVariable(VariableTree variable, Void none) {
        type(variable.getType(), variable);
        ask(variable.getModifiers().getAnnotations().isEmpty(), 3, variable, "an annotation");
        Kind parent = getCurrentPath().getParentPath().getLeaf().getKind();
        if (parent == Kind.CLASS) {
            field(variable);
        } else if (parent != Kind.METHOD) {
            boolean isArray = variable.getType() instanceof ArrayTypeTree;
            ask(!isArray, 4, variable, "a local variable that names an array");
        }
        return super.visitVariable(variable, none);
    }

    private void field(VariableTree field) {
        Set<Modifier> flags = field.getModifiers().getFlags();
        if (isStatic(field)) {
            ask(flags.contains(Modifier.FINAL) && isNumber(field.getType()), 5, field, "a static field, no constant");
            ask(isConstant(field.getInitializer()), 5, field, "a static field, not of constants");
        }
        if (arrayFields.contains(field.getName().toString())) {
            ask(flags.contains(Modifier.FINAL), 4, field, "an array field that can be assigned to");
        }
    }

    private void type(Tree type, Tree at) {
        Tree element = type instanceof ArrayTypeTree ? ((ArrayTypeTree) type).getType() : type;
        boolean isPlain = element instanceof PrimitiveTypeTree;
        ask(isPlain, 2, at, "a type that is no number, boolean or one-dimensional array: " + type);
        if (isPlain) {
            TypeKind kind = ((PrimitiveTypeTree) element).getPrimitiveTypeKind();
            ask(kind != TypeKind.FLOAT && kind != TypeKind.DOUBLE, 2, at, "a type with a fraction: " + type);
        }
    }

    @Override
    public Void visitTypeCast(TypeCastTree cast, Void none) {
        ask(cast.getType() instanceof PrimitiveTypeTree, 6, cast, "a cast of a reference");
        type(cast.getType(), cast);
        return super.visitTypeCast(cast, none);
    }

    @Override
    public Void visitNewArray(NewArrayTree array, Void none) {
        Tree holder = getCurrentPath().getParentPath().getLeaf();
        boolean inField = getCurrentPath().getParentPath().getParentPath().getLeaf().getKind() == Kind.CLASS;
        ask(holder.getKind() == Kind.VARIABLE && inField, 4, array, "an array not made in a field's initialiser");
        boolean hasLength = array.getDimensions().size() == 1 && array.getInitializers() == null;
        ask(hasLength && isLength(array.getDimensions().get(0)), 4, array, "an array of no constant length");
        return super.visitNewArray(array, none);
    }

    @Override
    public Void visitBinary(BinaryTree binary, Void none) {
        if (binary.getKind() == Kind.EQUAL_TO || binary.getKind() == Kind.NOT_EQUAL_TO) {
            for (ExpressionTree side : List.of(binary.getLeftOperand(), binary.getRightOperand())) {
                ask(!arrayFields.contains(side.toString()), 4, binary, "an array compared");
            }
        }
        return super.visitBinary(binary, none);
    }

    @Override
    public Void visitMethod(MethodTree own, Void none) {
        method = own.getName().toString();
        calls.putIfAbsent(method, new TreeSet<>());
        if (own.getReturnType() != null) {
            type(own.getReturnType(), own);
            ask(own.getReturnType().getKind() != Kind.ARRAY_TYPE, 4, own, "an array answered by " + method);
        }
        ask(own.getModifiers().getAnnotations().isEmpty(), 3, own, "an annotation");
        ask(own.getThrows().isEmpty(), 6, own, "a throws clause");
        ask(own.getTypeParameters().isEmpty(), 2, own, "a type parameter");
        ask(own.getParameters().size() <= MOST_PARAMETERS, 10, own, "too many parameters of " + method);
        long first = unit.getLineMap().getLineNumber(positions.getStartPosition(unit, own));
        long last = unit.getLineMap().getLineNumber(positions.getEndPosition(unit, own));
        ask(last - first < MOST_LINES, 10, own, "too many lines of " + method);
        return super.visitMethod(own, none);
    }

    // ---- Loops

    @Override
    public Void visitForLoop(ForLoopTree loop, Void none) {
        boolean isCounted = loop.getInitializer().size() == 1 && loop.getInitializer().get(0) instanceof VariableTree
            && loop.getUpdate().size() == 1 && loop.getCondition() != null;
        ask(isCounted, 8, loop, "a loop without one counter");
        if (isCounted) {
            String counter = ((VariableTree) loop.getInitializer().get(0)).getName().toString();
            ask(isBound(loop.getCondition(), counter), 8, loop, "a loop without a constant bound");
            ask(isStep(loop.getUpdate().get(0), counter), 8, loop, "a loop that does not count up by one");
            ask(!assigns(loop.getStatement(), counter), 8, loop, "a loop that changes its counter inside");
        }
        return super.visitForLoop(loop, none);
    }

    private boolean isBound(ExpressionTree condition, String counter) {
        if (condition.getKind() != Kind.LESS_THAN) {
            return false;
        }
        BinaryTree less = (BinaryTree) condition;
        return less.getLeftOperand().toString().equals(counter) && isLength(less.getRightOperand());
    }

    private static boolean isStep(ExpressionStatementTree update, String counter) {
        return update.getExpression().toString().equals(counter + "++");
    }

    private static boolean assigns(Tree body, String counter) {
        boolean[] found = {false};
        new TreeScanner<Void, Void>() {
            @Override
            public Void visitAssignment(AssignmentTree tree, Void none) {
                found[0] |= tree.getVariable().toString().equals(counter);
                return super.visitAssignment(tree, none);
            }

            @Override
            public Void visitCompoundAssignment(CompoundAssignmentTree tree, Void none) {
                found[0] |= tree.getVariable().toString().equals(counter);
                return super.visitCompoundAssignment(tree, none);
            }

            @Override
            public Void visitUnary(UnaryTree tree, Void none) {
                boolean isStep = tree.getKind().toString().endsWith("CREMENT");
                found[0] |= isStep && tree.getExpression().toString().equals(counter);
                return super.visitUnary(tree, none);
            }
        }.scan(body, null);
        return found[0];
    }

    // ---- Calls

    @Override
    public Void visitMethodInvocation(MethodInvocationTree call, Void none) {
        String callee = call.getMethodSelect().toString();
        boolean isOwn = publicMethods.contains(callee) || privateMethods.contains(callee);
        ask(isOwn, 3, call, "a call of no method of the class: " + callee);
        calls.get(method).add(callee);
        for (ExpressionTree argument : call.getArguments()) {
            ask(!hasCall(argument), 10, call, "a call inside the arguments of " + callee);
        }
        return super.visitMethodInvocation(call, none);
    }

    private static boolean hasCall(Tree argument) {
        boolean[] found = {false};
        new TreeScanner<Void, Void>() {
            @Override
            public Void visitMethodInvocation(MethodInvocationTree call, Void none) {
                found[0] = true;
                return null;
            }
        }.scan(argument, null);
        return found[0];
    }

    // A chain of calls that is longer than there are methods meets one of them twice.
    private void callGraph(ClassTree type) {
        for (String name : calls.keySet()) {
            Set<String> reached = Set.of(name);
            int depth = 0;
            while (!reached.isEmpty() && depth <= calls.size()) {
                depth++;
                Set<String> next = new TreeSet<>();
                for (String each : reached) {
                    next.addAll(calls.getOrDefault(each, Set.of()));
                }
                reached = next;
            }
            ask(depth <= calls.size(), 8, type, "recursion below " + name);
            ask(depth <= MOST_DEPTH, 10, type, "calls go " + depth + " deep below " + name);
        }
    }

    // ---- Small questions

    private static boolean isStatic(VariableTree field) {
        return field.getModifiers().getFlags().contains(Modifier.STATIC);
    }

    private static boolean isNumber(Tree type) {
        return type.toString().equals("int") || type.toString().equals("long");
    }

    private boolean isLength(ExpressionTree length) {
        if (length instanceof LiteralTree) {
            Object value = ((LiteralTree) length).getValue();
            return value instanceof Integer && (Integer) value >= 1;
        }
        return length instanceof IdentifierTree && constants.contains(length.toString());
    }

    private boolean isConstant(ExpressionTree tree) {
        boolean[] holds = {tree != null};
        new TreeScanner<Void, Void>() {
            @Override
            public Void scan(Tree part, Void none) {
                if (part != null) {
                    boolean isOperator = part instanceof BinaryTree || part instanceof UnaryTree;
                    holds[0] &= isOperator || CONSTANT_PARTS.contains(part.getKind());
                    holds[0] &= !(part instanceof IdentifierTree) || constants.contains(part.toString());
                }
                return super.scan(part, none);
            }
        }.scan(tree, null);
        return holds[0];
    }

    public static void main(String[] args) throws IOException {
        String source = args.length == 0 ? SOURCE : args[0];
        JavaCompiler compiler = ToolProvider.getSystemJavaCompiler();
        StandardJavaFileManager files = compiler.getStandardFileManager(null, null, null);
        JavacTask task = (JavacTask) compiler.getTask(null, files, null, null, null, files.getJavaFileObjects(source));
        CompilationUnitTree unit = task.parse().iterator().next();
        LanguageTest test = new LanguageTest(unit, Trees.instance(task).getSourcePositions());
        test.file();
        System.out.println(test.breaches == 0 ? "the language is as due" : test.breaches + " places are not as due");
        if (test.breaches != 0) {
            System.exit(1);
        }
    }
}
