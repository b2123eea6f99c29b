import com.sun.source.tree.ArrayTypeTree;
import com.sun.source.tree.AssignmentTree;
import com.sun.source.tree.BinaryTree;
import com.sun.source.tree.ClassTree;
import com.sun.source.tree.CompilationUnitTree;
import com.sun.source.tree.CompoundAssignmentTree;
import com.sun.source.tree.DoWhileLoopTree;
import com.sun.source.tree.ExpressionTree;
import com.sun.source.tree.ForLoopTree;
import com.sun.source.tree.IdentifierTree;
import com.sun.source.tree.LiteralTree;
import com.sun.source.tree.MemberSelectTree;
import com.sun.source.tree.MethodInvocationTree;
import com.sun.source.tree.MethodTree;
import com.sun.source.tree.NewArrayTree;
import com.sun.source.tree.PrimitiveTypeTree;
import com.sun.source.tree.Tree;
import com.sun.source.tree.TypeCastTree;
import com.sun.source.tree.UnaryTree;
import com.sun.source.tree.VariableTree;
import com.sun.source.tree.WhileLoopTree;
import com.sun.source.util.JavacTask;
import com.sun.source.util.SourcePositions;
import com.sun.source.util.TreeScanner;
import com.sun.source.util.Trees;
import java.io.File;
import java.io.IOException;
import java.util.EnumSet;
import java.util.List;
import java.util.Map;
import java.util.Set;
import java.util.TreeMap;
import java.util.TreeSet;
import javax.lang.model.element.Modifier;
import javax.lang.model.type.TypeKind;
import javax.tools.JavaCompiler;
import javax.tools.StandardJavaFileManager;
import javax.tools.ToolProvider;

/** The rules of LANGUAGE.md that can be read off the source; the project lies at draughts.root. */
public final class LanguageTest {
    private static final Set<Tree.Kind> BANNED = EnumSet.of(Tree.Kind.IMPORT, Tree.Kind.PACKAGE, Tree.Kind.INTERFACE,
            Tree.Kind.ENUM, Tree.Kind.RECORD, Tree.Kind.THROW, Tree.Kind.TRY, Tree.Kind.CATCH, Tree.Kind.SYNCHRONIZED,
            Tree.Kind.ASSERT, Tree.Kind.INSTANCE_OF, Tree.Kind.LAMBDA_EXPRESSION, Tree.Kind.MEMBER_REFERENCE,
            Tree.Kind.NEW_CLASS, Tree.Kind.NULL_LITERAL, Tree.Kind.STRING_LITERAL, Tree.Kind.FLOAT_LITERAL,
            Tree.Kind.DOUBLE_LITERAL, Tree.Kind.ENHANCED_FOR_LOOP);
    private static final Set<TypeKind> NUMBERS = EnumSet.of(TypeKind.INT, TypeKind.LONG, TypeKind.SHORT, TypeKind.BYTE,
            TypeKind.CHAR, TypeKind.BOOLEAN, TypeKind.VOID);
    private static final int MOST_PARAMETERS = 7;
    private static final int MOST_LINES = 60;
    private static final int MOST_CALLS = 6;
    private static final int MOST_FIELDS = 40;

    private final Map<String, Set<String>> calls = new TreeMap<>();
    private final Set<String> arrays = new TreeSet<>();
    private final CompilationUnitTree unit;
    private final SourcePositions positions;

    private LanguageTest(CompilationUnitTree unit, SourcePositions positions) {
        this.unit = unit;
        this.positions = positions;
    }

    public static void main(String[] args) throws IOException {
        JavaCompiler compiler = ToolProvider.getSystemJavaCompiler();
        StandardJavaFileManager files = compiler.getStandardFileManager(null, null, null);
        File source = new File(System.getProperty("draughts.root", "."), "src/main/java/DraughtsEngine.java");
        JavacTask task = (JavacTask) compiler.getTask(null, files, null, null, null, files.getJavaFileObjects(source));
        CompilationUnitTree unit = task.parse().iterator().next();
        new LanguageTest(unit, Trees.instance(task).getSourcePositions()).check();
        Due.finish();
    }

    private void check() {
        Due.is("types in the file", unit.getTypeDecls().size(), 1);
        ClassTree engine = (ClassTree) unit.getTypeDecls().get(0);
        scanForBannedThings();
        scanLoops();
        int fields = 0;
        for (Tree member : engine.getMembers()) {
            if (member instanceof MethodTree method) {
                checkMethod(method);
            } else if (member instanceof VariableTree field) {
                boolean isStatic = field.getModifiers().getFlags().contains(Modifier.STATIC);
                fields += isStatic ? 0 : 1;
                checkStatic(field, isStatic);
                if (field.getType() instanceof ArrayTypeTree) {
                    arrays.add(field.getName().toString());
                }
            } else {
                allowed("a member of another kind", member, false);
            }
        }
        scanUseOfArraysAndDivisors();
        Due.yes("at most 40 fields", fields <= MOST_FIELDS);
        for (String method : calls.keySet()) {
            int depth = depthOf(method, List.of());
            Due.yes("calls from " + method + " go " + depth + " deep", depth <= MOST_CALLS);
        }
    }

    private void scanForBannedThings() {
        new TreeScanner<Void, Void>() {
            @Override
            public Void scan(Tree tree, Void nothing) {
                if (tree != null) {
                    allowed("a banned construct, " + tree.getKind(), tree, !BANNED.contains(tree.getKind()));
                }
                return super.scan(tree, nothing);
            }

            @Override
            public Void visitPrimitiveType(PrimitiveTypeTree type, Void nothing) {
                allowed("a banned type", type, NUMBERS.contains(type.getPrimitiveTypeKind()));
                return null;
            }

            @Override
            public Void visitVariable(VariableTree variable, Void nothing) {
                allowed("a type that is no number", variable, isNumberOrArray(variable.getType()));
                return super.visitVariable(variable, nothing);
            }

            @Override
            public Void visitTypeCast(TypeCastTree cast, Void nothing) {
                allowed("a cast of a reference", cast, cast.getType() instanceof PrimitiveTypeTree);
                return super.visitTypeCast(cast, nothing);
            }

            @Override
            public Void visitMemberSelect(MemberSelectTree select, Void nothing) {
                boolean isThis = select.getExpression().toString().equals("this");
                allowed("another class or object", select, isThis || select.getIdentifier().contentEquals("length"));
                return super.visitMemberSelect(select, nothing);
            }
        }.scan(unit, null);
    }

    private void scanLoops() {
        new TreeScanner<Void, Void>() {
            @Override
            public Void visitForLoop(ForLoopTree loop, Void nothing) {
                allowed("a loop without a counter against a bound", loop, isCounted(loop));
                return super.visitForLoop(loop, nothing);
            }

            @Override
            public Void visitWhileLoop(WhileLoopTree loop, Void nothing) {
                allowed("a loop that is no counted for", loop, false);
                return super.visitWhileLoop(loop, nothing);
            }

            @Override
            public Void visitDoWhileLoop(DoWhileLoopTree loop, Void nothing) {
                allowed("a loop that is no counted for", loop, false);
                return super.visitDoWhileLoop(loop, nothing);
            }
        }.scan(unit, null);
    }

    /** The counter is the loop's own, only grows, and stands against a bound that the loop leaves alone. */
    private static boolean isCounted(ForLoopTree loop) {
        boolean hasOneCounter = loop.getInitializer().size() == 1 && loop.getUpdate().size() == 1;
        if (!hasOneCounter || !(loop.getInitializer().get(0) instanceof VariableTree variable)) {
            return false;
        }
        String counter = variable.getName().toString();
        Set<String> assigned = assignedIn(loop.getStatement());
        String bound = boundOf(loop.getCondition(), counter);
        return loop.getUpdate().get(0).toString().equals(counter + "++;")
                && !bound.isEmpty() && !assigned.contains(counter) && !assigned.contains(bound);
    }

    /** What the counter must stay below, in a condition or in one that && joins to others; else nothing. */
    private static String boundOf(ExpressionTree condition, String counter) {
        if (!(condition instanceof BinaryTree both)) {
            return "";
        }
        if (both.getKind() == Tree.Kind.CONDITIONAL_AND) {
            return boundOf(both.getLeftOperand(), counter) + boundOf(both.getRightOperand(), counter);
        }
        boolean below = both.getKind() == Tree.Kind.LESS_THAN || both.getKind() == Tree.Kind.LESS_THAN_EQUAL;
        return below && both.getLeftOperand().toString().equals(counter) ? both.getRightOperand().toString() : "";
    }

    private static Set<String> assignedIn(Tree body) {
        Set<String> assigned = new TreeSet<>();
        new TreeScanner<Void, Void>() {
            @Override
            public Void visitAssignment(AssignmentTree assignment, Void nothing) {
                assigned.add(assignment.getVariable().toString());
                return super.visitAssignment(assignment, nothing);
            }

            @Override
            public Void visitCompoundAssignment(CompoundAssignmentTree assignment, Void nothing) {
                assigned.add(assignment.getVariable().toString());
                return super.visitCompoundAssignment(assignment, nothing);
            }

            @Override
            public Void visitUnary(UnaryTree unary, Void nothing) {
                boolean changes = unary.getKind().name().contains("CREMENT");
                if (changes) {
                    assigned.add(unary.getExpression().toString());
                }
                return super.visitUnary(unary, nothing);
            }
        }.scan(body, null);
        return assigned;
    }

    private void scanUseOfArraysAndDivisors() {
        new TreeScanner<Void, Void>() {
            @Override
            public Void visitAssignment(AssignmentTree assignment, Void nothing) {
                allowed("an array field assigned", assignment, !isArray(assignment.getVariable()));
                return super.visitAssignment(assignment, nothing);
            }

            @Override
            public Void visitBinary(BinaryTree binary, Void nothing) {
                boolean compares = binary.getKind() == Tree.Kind.EQUAL_TO || binary.getKind() == Tree.Kind.NOT_EQUAL_TO;
                boolean ofArrays = isArray(binary.getLeftOperand()) || isArray(binary.getRightOperand());
                allowed("an array compared", binary, !compares || !ofArrays);
                // A constant 0 would not compile: .ci/run has javac refuse what it warns of.
                boolean divides = binary.getKind() == Tree.Kind.DIVIDE || binary.getKind() == Tree.Kind.REMAINDER;
                allowed("a divisor that may be 0", binary, !divides || isConstant(binary.getRightOperand()));
                return super.visitBinary(binary, nothing);
            }

            @Override
            public Void visitCompoundAssignment(CompoundAssignmentTree change, Void nothing) {
                boolean divides = change.getKind() == Tree.Kind.DIVIDE_ASSIGNMENT
                        || change.getKind() == Tree.Kind.REMAINDER_ASSIGNMENT;
                allowed("a divisor that may be 0", change, !divides || isConstant(change.getExpression()));
                return super.visitCompoundAssignment(change, nothing);
            }
        }.scan(unit, null);
    }

    private boolean isArray(Tree tree) {
        return arrays.contains(tree.toString().replace("this.", ""));
    }

    private void checkStatic(VariableTree field, boolean isStatic) {
        if (isStatic) {
            String type = field.getType().toString();
            boolean isFinal = field.getModifiers().getFlags().contains(Modifier.FINAL);
            allowed("a static field that is no constant", field, isFinal && (type.equals("int") || type.equals("long")));
        }
        if (field.getInitializer() instanceof NewArrayTree array) {
            boolean plain = array.getDimensions().size() == 1 && isConstant(array.getDimensions().get(0));
            allowed("an array without a constant length", field, plain);
        }
    }

    private void checkMethod(MethodTree method) {
        String name = method.getName().toString();
        allowed("two methods of one name", method, !calls.containsKey(name));
        allowed("more than seven parameters", method, method.getParameters().size() <= MOST_PARAMETERS);
        allowed("a long method", method, linesOf(method) <= MOST_LINES);
        Tree answer = method.getReturnType();
        allowed("a method that answers no number", method, answer == null || answer instanceof PrimitiveTypeTree);
        Set<String> called = new TreeSet<>();
        calls.put(name, called);
        new TreeScanner<Void, Boolean>() {
            @Override
            public Void visitMethodInvocation(MethodInvocationTree call, Boolean inside) {
                allowed("a call inside a call", call, !inside);
                boolean isDefault = call.getMethodSelect().toString().equals("super");
                if (!isDefault) {
                    called.add(call.getMethodSelect().toString());
                }
                return scan(call.getArguments(), true);
            }

            @Override
            public Void visitNewArray(NewArrayTree array, Boolean inside) {
                allowed("an array made in a method", array, false);
                return null;
            }
        }.scan(method.getBody(), false);
    }

    /** How many methods stand on the longest way down from this one, itself counted. */
    private int depthOf(String method, List<String> above) {
        if (above.contains(method)) {
            Due.yes("recursion through " + method, false);
            return 0;
        }
        List<String> way = new java.util.ArrayList<>(above);
        way.add(method);
        int deepest = 0;
        for (String next : calls.getOrDefault(method, Set.of())) {
            Due.yes(method + " calls a method of this class: " + next, calls.containsKey(next));
            deepest = Math.max(deepest, depthOf(next, way));
        }
        return deepest + 1;
    }

    private static boolean isConstant(Tree tree) {
        if (tree instanceof IdentifierTree name) {
            return name.toString().equals(name.toString().toUpperCase());
        }
        return tree instanceof LiteralTree;
    }

    private static boolean isNumberOrArray(Tree type) {
        return type instanceof ArrayTypeTree array ? array.getType() instanceof PrimitiveTypeTree : type instanceof PrimitiveTypeTree;
    }

    private long linesOf(Tree tree) {
        return lineAt(positions.getEndPosition(unit, tree)) - lineAt(positions.getStartPosition(unit, tree)) + 1;
    }

    private long lineAt(long position) {
        return unit.getLineMap().getLineNumber(position);
    }

    private void allowed(String what, Tree tree, boolean isAllowed) {
        long line = isAllowed ? 0 : lineAt(positions.getStartPosition(unit, tree));
        Due.yes("line " + line + " has " + what + ": without it", isAllowed);
    }
}
