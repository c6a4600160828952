import com.sun.source.tree.AssignmentTree;
import com.sun.source.tree.BinaryTree;
import com.sun.source.tree.BlockTree;
import com.sun.source.tree.ClassTree;
import com.sun.source.tree.CompilationUnitTree;
import com.sun.source.tree.CompoundAssignmentTree;
import com.sun.source.tree.ExpressionStatementTree;
import com.sun.source.tree.ExpressionTree;
import com.sun.source.tree.ForLoopTree;
import com.sun.source.tree.IdentifierTree;
import com.sun.source.tree.LineMap;
import com.sun.source.tree.LiteralTree;
import com.sun.source.tree.MemberSelectTree;
import com.sun.source.tree.MethodInvocationTree;
import com.sun.source.tree.MethodTree;
import com.sun.source.tree.NewArrayTree;
import com.sun.source.tree.ParenthesizedTree;
import com.sun.source.tree.StatementTree;
import com.sun.source.tree.Tree;
import com.sun.source.tree.Tree.Kind;
import com.sun.source.tree.TypeCastTree;
import com.sun.source.tree.UnaryTree;
import com.sun.source.tree.VariableTree;
import com.sun.source.util.JavacTask;
import com.sun.source.util.SourcePositions;
import com.sun.source.util.TreeScanner;
import com.sun.source.util.Trees;
import java.io.File;
import java.util.EnumSet;
import java.util.HashMap;
import java.util.HashSet;
import java.util.List;
import java.util.Map;
import java.util.Set;
import java.util.TreeMap;
import java.util.TreeSet;
import javax.lang.model.element.Modifier;
import javax.tools.JavaCompiler;
import javax.tools.StandardJavaFileManager;
import javax.tools.ToolProvider;

/**
 * The source keeps to the rules of LANGUAGE.md that can be seen in its text. Some are read more
 * narrowly here than they are written (all loops are counted, all arrays are made in initialisers),
 * because the class needs no more. Rule 7 can't be seen in the text: InsideTest has a test of it.
 */
public final class LanguageTest extends TreeScanner<Void, Void> {
    private static final String SOURCE = "src/main/java/HashSuite.java";
    private static final Set<String> TYPES = Set.of(
            "int", "long", "short", "byte", "char", "boolean",
            "int[]", "long[]", "short[]", "byte[]", "char[]", "boolean[]");
    private static final Set<Kind> LEFT_OUT = EnumSet.of(
            Kind.THROW, Kind.TRY, Kind.SYNCHRONIZED, Kind.ASSERT, Kind.INSTANCE_OF,
            Kind.LAMBDA_EXPRESSION, Kind.MEMBER_REFERENCE, Kind.NEW_CLASS, Kind.NULL_LITERAL,
            Kind.STRING_LITERAL, Kind.FLOAT_LITERAL, Kind.DOUBLE_LITERAL, Kind.IMPORT, Kind.PACKAGE,
            Kind.INTERFACE, Kind.ENUM, Kind.RECORD, Kind.ANNOTATION_TYPE, Kind.ANNOTATION,
            Kind.WHILE_LOOP, Kind.DO_WHILE_LOOP, Kind.ENHANCED_FOR_LOOP, Kind.YIELD,
            Kind.PARAMETERIZED_TYPE);

    private final Map<String, Set<String>> callsOf = new TreeMap<>();
    private final Set<String> publicMethods = new TreeSet<>();
    private final Set<String> privateMethods = new TreeSet<>();
    private final Set<String> constants = new HashSet<>();
    private final Set<String> arrayFields = new HashSet<>();
    private final Map<String, Integer> depthOf = new HashMap<>();
    private SourcePositions positions;
    private CompilationUnitTree unit;
    private String inMethod = "";
    private int fields = 0;
    private int inArguments = 0;

    public static void main(String[] args) throws Exception {
        new LanguageTest().look();
        Checks.end();
    }

    private void look() throws Exception {
        JavaCompiler compiler = ToolProvider.getSystemJavaCompiler();
        StandardJavaFileManager files = compiler.getStandardFileManager(null, null, null);
        JavacTask task = (JavacTask) compiler.getTask(null, files, null, null, null,
                files.getJavaFileObjects(new File(SOURCE)));
        positions = Trees.instance(task).getSourcePositions();
        unit = task.parse().iterator().next();
        holds(1, "one class in the file", unit, unit.getTypeDecls().size() == 1);
        ClassTree type = (ClassTree) unit.getTypeDecls().get(0);
        holds(1, "public and final", type,
                type.getModifiers().getFlags().equals(Set.of(Modifier.PUBLIC, Modifier.FINAL)));
        holds(2, "no object of any other class", type,
                type.getExtendsClause() == null && type.getImplementsClause().isEmpty());
        collectNames(type);
        scan(unit, null);
        lookAtNames(type);
        lookAtCalls(type);
    }

    private void holds(int rule, String what, Tree where, boolean holds) {
        long line = unit.getLineMap().getLineNumber(start(where));
        Checks.due("rule " + rule + ", " + what + ": line " + line, holds, true);
    }

    private long start(Tree tree) {
        return Math.max(0, positions.getStartPosition(unit, tree));
    }

    private void collectNames(ClassTree type) {
        for (Tree member : type.getMembers()) {
            if (member instanceof MethodTree method) {
                String name = method.getName().toString();
                callsOf.put(name, new TreeSet<>());
                boolean isPublic = method.getModifiers().getFlags().contains(Modifier.PUBLIC);
                (isPublic ? publicMethods : privateMethods).add(name);
            } else if (member instanceof VariableTree field) {
                if (field.getType().getKind() == Kind.ARRAY_TYPE) {
                    arrayFields.add(field.getName().toString());
                }
            }
        }
    }

    private void lookAtNames(ClassTree type) {
        for (String name : privateMethods) {
            holds(1, "no private method bears a public one's name", type,
                    !publicMethods.contains(name));
        }
        holds(10, "at most some forty fields", type, fields <= 40);
    }

    // ---- members ----

    @Override
    public Void visitClass(ClassTree type, Void none) {
        holds(1, "no nested class", type, unit.getTypeDecls().contains(type));
        for (Tree member : type.getMembers()) {
            if (member instanceof VariableTree field) {
                lookAtField(field);
            } else {
                holds(5, "no initialiser block", member, !(member instanceof BlockTree));
            }
        }
        return super.visitClass(type, none);
    }

    private void lookAtField(VariableTree field) {
        Set<Modifier> flags = field.getModifiers().getFlags();
        if (flags.contains(Modifier.STATIC)) {
            holds(5, "static fields are constants of int or long", field,
                    flags.contains(Modifier.FINAL)
                            && Set.of("int", "long").contains(field.getType().toString())
                            && isConstant(field.getInitializer()));
            constants.add(field.getName().toString());
            return;
        }
        fields++;
        if (field.getType().getKind() == Kind.ARRAY_TYPE) {
            holds(4, "array fields are final and made at the start", field,
                    flags.contains(Modifier.FINAL)
                            && field.getInitializer() instanceof NewArrayTree);
        }
    }

    private boolean isConstant(ExpressionTree value) {
        if (value instanceof UnaryTree unary && unary.getKind() == Kind.UNARY_MINUS) {
            return isConstant(unary.getExpression());
        }
        if (value instanceof BinaryTree binary) {
            return isConstant(binary.getLeftOperand()) && isConstant(binary.getRightOperand());
        }
        return value instanceof LiteralTree
                || value instanceof IdentifierTree name && constants.contains(name.toString());
    }

    @Override
    public Void visitMethod(MethodTree method, Void none) {
        inMethod = method.getName().toString();
        holds(10, "at most seven parameters", method, method.getParameters().size() <= 7);
        holds(6, "no throws clause", method, method.getThrows().isEmpty());
        if (method.getReturnType() != null) {
            String type = method.getReturnType().toString();
            holds(4, "no array is answered", method, !type.endsWith("]"));
            holds(2, "types", method, type.equals("void") || TYPES.contains(type));
        }
        LineMap lines = unit.getLineMap();
        long length = lines.getLineNumber(positions.getEndPosition(unit, method))
                - lines.getLineNumber(start(method)) + 1;
        holds(10, "methods stay short", method, length <= 60);
        super.visitMethod(method, none);
        inMethod = "";
        return null;
    }

    @Override
    public Void visitVariable(VariableTree variable, Void none) {
        holds(2, "types", variable, variable.getType() != null
                && TYPES.contains(variable.getType().toString()));
        return super.visitVariable(variable, none);
    }

    // ---- statements and expressions ----

    @Override
    public Void scan(Tree tree, Void none) {
        if (tree != null) {
            holds(6, "nothing that the rules leave out, here " + tree.getKind(), tree,
                    !LEFT_OUT.contains(tree.getKind()));
        }
        return super.scan(tree, none);
    }

    @Override
    public Void visitNewArray(NewArrayTree made, Void none) {
        holds(4, "arrays are made in initialisers", made, inMethod.isEmpty());
        holds(4, "with one length, a constant, 1 or more", made, made.getInitializers() == null
                && made.getDimensions().size() == 1 && isConstant(made.getDimensions().get(0)));
        return super.visitNewArray(made, none);
    }

    @Override
    public Void visitTypeCast(TypeCastTree cast, Void none) {
        String type = cast.getType().toString();
        holds(6, "no cast of a reference", cast, TYPES.contains(type) && !type.endsWith("]"));
        return super.visitTypeCast(cast, none);
    }

    @Override
    public Void visitMemberSelect(MemberSelectTree select, Void none) {
        boolean isOwn = select.getExpression().toString().equals("this");
        boolean isLength = select.getIdentifier().contentEquals("length");
        holds(3, "no class of the library, here " + select, select, isOwn || isLength);
        return super.visitMemberSelect(select, none);
    }

    @Override
    public Void visitAssignment(AssignmentTree assignment, Void none) {
        holds(4, "no method assigns to an array field", assignment,
                !arrayFields.contains(assignment.getVariable().toString().replace("this.", "")));
        return super.visitAssignment(assignment, none);
    }

    @Override
    public Void visitBinary(BinaryTree binary, Void none) {
        boolean compares = binary.getKind() == Kind.EQUAL_TO || binary.getKind() == Kind.NOT_EQUAL_TO;
        holds(4, "no array is compared", binary, !compares
                || !arrayFields.contains(binary.getLeftOperand().toString())
                && !arrayFields.contains(binary.getRightOperand().toString()));
        return super.visitBinary(binary, none);
    }

    @Override
    public Void visitMethodInvocation(MethodInvocationTree call, Void none) {
        String name = call.getMethodSelect().toString();
        holds(3, "only methods of the class are called, here " + name, call,
                callsOf.containsKey(name));
        callsOf.getOrDefault(inMethod, new TreeSet<>()).add(name);
        holds(10, "no call inside the arguments of another one", call, inArguments == 0);
        inArguments++;
        scan(call.getArguments(), none);
        inArguments--;
        return null;
    }

    // ---- loops ----

    @Override
    public Void visitForLoop(ForLoopTree loop, Void none) {
        List<? extends StatementTree> start = loop.getInitializer();
        boolean hasCounter = start.size() == 1 && start.get(0) instanceof VariableTree
                && loop.getUpdate().size() == 1;
        holds(8, "a loop has one counter", loop, hasCounter);
        if (hasCounter) {
            String counter = ((VariableTree) start.get(0)).getName().toString();
            holds(8, "the counter goes towards its bound", loop,
                    isBounded(loop.getCondition(), counter, loop.getUpdate().get(0)));
            Set<String> changed = changedIn(loop.getStatement());
            holds(8, "the body leaves the counter alone", loop, !changed.contains(counter));
            changed.retainAll(namesOfBound(loop.getCondition(), counter));
            holds(8, "the body leaves the bound alone", loop, changed.isEmpty());
        }
        return super.visitForLoop(loop, none);
    }

    private static boolean isBounded(ExpressionTree condition, String counter,
            ExpressionStatementTree update) {
        BinaryTree bound = boundOf(condition, counter);
        if (bound == null || !(update.getExpression() instanceof UnaryTree step)) {
            return false;
        }
        boolean goesUp = step.getKind() == Kind.POSTFIX_INCREMENT;
        boolean goesDown = step.getKind() == Kind.POSTFIX_DECREMENT;
        boolean isUpper = bound.getKind() == Kind.LESS_THAN || bound.getKind() == Kind.LESS_THAN_EQUAL;
        return step.getExpression().toString().equals(counter)
                && (isUpper ? goesUp : goesDown);
    }

    /** The part of a condition that compares the counter, where no || lets the loop go on. */
    private static BinaryTree boundOf(ExpressionTree condition, String counter) {
        if (condition instanceof ParenthesizedTree inner) {
            return boundOf(inner.getExpression(), counter);
        }
        if (!(condition instanceof BinaryTree binary)) {
            return null;
        }
        switch (binary.getKind()) {
            case CONDITIONAL_AND:
                BinaryTree left = boundOf(binary.getLeftOperand(), counter);
                return left != null ? left : boundOf(binary.getRightOperand(), counter);
            case LESS_THAN:
            case LESS_THAN_EQUAL:
            case GREATER_THAN:
            case GREATER_THAN_EQUAL:
                return binary.getLeftOperand().toString().equals(counter) ? binary : null;
            default:
                return null;
        }
    }

    private static Set<String> namesOfBound(ExpressionTree condition, String counter) {
        Set<String> names = new HashSet<>();
        BinaryTree bound = boundOf(condition, counter);
        if (bound != null) {
            new TreeScanner<Void, Void>() {
                @Override
                public Void visitIdentifier(IdentifierTree name, Void none) {
                    names.add(name.getName().toString());
                    return null;
                }
            }.scan(bound.getRightOperand(), null);
        }
        return names;
    }

    private static Set<String> changedIn(Tree body) {
        Set<String> changed = new HashSet<>();
        new TreeScanner<Void, Void>() {
            @Override
            public Void visitAssignment(AssignmentTree tree, Void none) {
                changed.add(tree.getVariable().toString());
                return super.visitAssignment(tree, none);
            }

            @Override
            public Void visitCompoundAssignment(CompoundAssignmentTree tree, Void none) {
                changed.add(tree.getVariable().toString());
                return super.visitCompoundAssignment(tree, none);
            }

            @Override
            public Void visitUnary(UnaryTree tree, Void none) {
                if (tree.getKind().name().endsWith("CREMENT")) {
                    changed.add(tree.getExpression().toString());
                }
                return super.visitUnary(tree, none);
            }
        }.scan(body, null);
        return changed;
    }

    // ---- calls ----

    private void lookAtCalls(ClassTree type) {
        for (String name : callsOf.keySet()) {
            int depth = depth(name, new HashSet<>());
            holds(8, "no recursion, here " + name, type, depth <= callsOf.size());
            holds(10, "calls at most six deep, here " + name, type, depth <= 6);
        }
    }

    /** How deep the calls of a method go, itself as the first; endless if it comes back to itself. */
    private int depth(String name, Set<String> above) {
        if (depthOf.containsKey(name)) {
            return depthOf.get(name);
        }
        if (!above.add(name)) {
            return 1000;
        }
        int deepest = 0;
        for (String called : callsOf.getOrDefault(name, Set.of())) {
            deepest = Math.max(deepest, depth(called, above));
        }
        above.remove(name);
        depthOf.put(name, deepest + 1);
        return deepest + 1;
    }
}
