import com.sun.source.tree.ArrayTypeTree;
import com.sun.source.tree.AssignmentTree;
import com.sun.source.tree.BinaryTree;
import com.sun.source.tree.ClassTree;
import com.sun.source.tree.CompilationUnitTree;
import com.sun.source.tree.CompoundAssignmentTree;
import com.sun.source.tree.ExpressionTree;
import com.sun.source.tree.ForLoopTree;
import com.sun.source.tree.IdentifierTree;
import com.sun.source.tree.MemberSelectTree;
import com.sun.source.tree.MethodInvocationTree;
import com.sun.source.tree.MethodTree;
import com.sun.source.tree.NewArrayTree;
import com.sun.source.tree.ParenthesizedTree;
import com.sun.source.tree.PrimitiveTypeTree;
import com.sun.source.tree.StatementTree;
import com.sun.source.tree.Tree;
import com.sun.source.tree.UnaryTree;
import com.sun.source.tree.VariableTree;
import com.sun.source.util.JavacTask;
import com.sun.source.util.SourcePositions;
import com.sun.source.util.TreeScanner;
import com.sun.source.util.Trees;
import java.io.IOException;
import java.util.HashMap;
import java.util.HashSet;
import java.util.Map;
import java.util.Set;
import java.util.TreeSet;
import javax.lang.model.element.Modifier;
import javax.lang.model.type.TypeKind;
import javax.tools.JavaCompiler;
import javax.tools.StandardJavaFileManager;
import javax.tools.ToolProvider;

/*
 * The rules of LANGUAGE.md that can be seen in the text of the class. Where a rule leaves several
 * ways the test asks for the one that the class takes: all arrays in the fields' initialisers, and
 * for every loop a counter of its own that its body does not change. What a rule says of every run
 * (7, and that bounds stand high enough) is left to the other tests.
 */
public final class LanguageTest extends TreeScanner<Void, Void> {
    private static final String SOURCE = "src/main/java/TableMachine.java";
    private static final int MOST_PARAMETERS = 7;
    private static final int MOST_LINES = 60;
    private static final int MOST_DEEP = 6;
    private static final int MOST_FIELDS = 40;
    private static final Set<TypeKind> TYPES =
        Set.of(TypeKind.INT, TypeKind.LONG, TypeKind.SHORT, TypeKind.BYTE, TypeKind.CHAR, TypeKind.BOOLEAN);

    private static final Set<Tree.Kind> STEPS = Set.of(Tree.Kind.POSTFIX_INCREMENT, Tree.Kind.POSTFIX_DECREMENT,
        Tree.Kind.PREFIX_INCREMENT, Tree.Kind.PREFIX_DECREMENT);
    // With the number of the rule.
    private static final Map<Tree.Kind, Integer> LEFT_OUT = Map.ofEntries(
        Map.entry(Tree.Kind.STRING_LITERAL, 2),
        Map.entry(Tree.Kind.FLOAT_LITERAL, 2),
        Map.entry(Tree.Kind.DOUBLE_LITERAL, 2),
        Map.entry(Tree.Kind.NULL_LITERAL, 4),
        Map.entry(Tree.Kind.NEW_CLASS, 4),
        Map.entry(Tree.Kind.THROW, 6),
        Map.entry(Tree.Kind.TRY, 6),
        Map.entry(Tree.Kind.SYNCHRONIZED, 6),
        Map.entry(Tree.Kind.ASSERT, 6),
        Map.entry(Tree.Kind.INSTANCE_OF, 6),
        Map.entry(Tree.Kind.LAMBDA_EXPRESSION, 6),
        Map.entry(Tree.Kind.MEMBER_REFERENCE, 6),
        Map.entry(Tree.Kind.WHILE_LOOP, 8),
        Map.entry(Tree.Kind.DO_WHILE_LOOP, 8),
        Map.entry(Tree.Kind.ENHANCED_FOR_LOOP, 8));

    private final CompilationUnitTree unit;
    private final SourcePositions positions;
    private final Map<String, Set<String>> callsOf = new HashMap<>();
    private final Set<String> publicMethods = new TreeSet<>();
    private final Set<String> privateMethods = new TreeSet<>();
    private String method = null;
    private int classes = 0;
    private int fields = 0;
    private int inArguments = 0;
    private int wrong = 0;

    private LanguageTest(CompilationUnitTree unit, SourcePositions positions) {
        this.unit = unit;
        this.positions = positions;
    }

    private long lineOf(long position) {
        return unit.getLineMap().getLineNumber(position);
    }

    private void broken(int rule, Tree where, String what) {
        wrong++;
        long line = lineOf(positions.getStartPosition(unit, where));
        System.out.println("rule " + rule + ", line " + line + ": " + what);
    }

    private void expect(boolean holds, int rule, Tree where, String what) {
        if (!holds) {
            broken(rule, where, what);
        }
    }

    // ---- rules 1 to 5: the class, its members and its types ----

    @Override
    public Void visitClass(ClassTree it, Void none) {
        classes++;
        Set<Modifier> flags = it.getModifiers().getFlags();
        expect(classes == 1, 1, it, "a second class");
        expect(flags.equals(Set.of(Modifier.PUBLIC, Modifier.FINAL)), 1, it, "the class is " + flags);
        expect(it.getExtendsClause() == null && it.getImplementsClause().isEmpty(), 2, it, "another class above it");
        for (Tree member : it.getMembers()) {
            expect(member instanceof MethodTree || member instanceof VariableTree, 1, member, "no method and no field");
        }
        return super.visitClass(it, none);
    }

    private static boolean isSeenAsItMay(Set<Modifier> flags) {
        return flags.contains(Modifier.PUBLIC) != flags.contains(Modifier.PRIVATE);
    }

    @Override
    public Void visitVariable(VariableTree it, Void none) {
        if (method == null) {
            field(it);
        }
        expect(isNumberType(it.getType()), 2, it, "the type " + it.getType());
        return super.visitVariable(it, none);
    }

    private void field(VariableTree it) {
        Set<Modifier> flags = it.getModifiers().getFlags();
        expect(isSeenAsItMay(flags), 1, it, "a field that is neither public nor private");
        if (flags.contains(Modifier.STATIC)) {
            String type = it.getType().toString();
            boolean constant = flags.contains(Modifier.FINAL) && it.getInitializer() != null;
            expect(constant && (type.equals("int") || type.equals("long")), 5, it, "a static field that is no constant");
        } else {
            fields++;
            expect(!flags.contains(Modifier.PUBLIC), 1, it, "a public field");
        }
    }

    private static boolean isNumberType(Tree type) {
        Tree one = type instanceof ArrayTypeTree array ? array.getType() : type;
        return one instanceof PrimitiveTypeTree simple && TYPES.contains(simple.getPrimitiveTypeKind());
    }

    @Override
    public Void visitCompilationUnit(CompilationUnitTree it, Void none) {
        expect(it.getPackage() == null, 1, it, "a package");
        expect(it.getImports().isEmpty(), 3, it, "an import");
        return super.visitCompilationUnit(it, none);
    }

    @Override
    public Void visitMemberSelect(MemberSelectTree it, Void none) {
        boolean length = it.getIdentifier().contentEquals("length");
        boolean own = it.getExpression().toString().equals("this");
        expect(length || own, 3, it, "something of another class: " + it);
        return super.visitMemberSelect(it, none);
    }

    @Override
    public Void visitNewArray(NewArrayTree it, Void none) {
        expect(method == null, 4, it, "an array that a method makes");
        expect(it.getDimensions().size() == 1 && it.getInitializers() == null, 4, it, "an array without a length");
        return super.visitNewArray(it, none);
    }

    // ---- what is left out of the language wherever it stands ----

    @Override
    public Void scan(Tree it, Void none) {
        if (it != null && LEFT_OUT.containsKey(it.getKind())) {
            broken(LEFT_OUT.get(it.getKind()), it, "this is left out of the language: " + it.getKind());
        }
        return super.scan(it, none);
    }

    // ---- rule 8: loops with an end that can be seen, and no recursion ----

    @Override
    public Void visitForLoop(ForLoopTree it, Void none) {
        boolean one = it.getInitializer().size() == 1 && it.getUpdate().size() == 1;
        if (!one || !(it.getInitializer().get(0) instanceof VariableTree counter)) {
            broken(8, it, "a loop without a counter of its own");
            return super.visitForLoop(it, none);
        }
        String name = counter.getName().toString();
        String update = it.getUpdate().get(0).getExpression().toString();
        boolean up = update.equals(name + "++");
        expect(up || update.equals(name + "--"), 8, it, "the counter goes on by " + update);
        expect(isBounded(it.getCondition(), name, up), 8, it, "no bound for " + name);
        expect(!changes(it.getStatement(), name), 8, it, "the body changes the counter " + name);
        return super.visitForLoop(it, none);
    }

    private static boolean isBounded(ExpressionTree condition, String counter, boolean up) {
        if (condition instanceof ParenthesizedTree inner) {
            return isBounded(inner.getExpression(), counter, up);
        }
        if (!(condition instanceof BinaryTree test)) {
            return false;
        }
        if (test.getKind() == Tree.Kind.CONDITIONAL_AND) {
            return isBounded(test.getLeftOperand(), counter, up) || isBounded(test.getRightOperand(), counter, up);
        }
        Set<Tree.Kind> wanted = up ? Set.of(Tree.Kind.LESS_THAN, Tree.Kind.LESS_THAN_EQUAL)
            : Set.of(Tree.Kind.GREATER_THAN, Tree.Kind.GREATER_THAN_EQUAL);
        return wanted.contains(test.getKind()) && test.getLeftOperand().toString().equals(counter);
    }

    private static boolean changes(StatementTree body, String name) {
        boolean[] found = {false};
        new TreeScanner<Void, Void>() {
            private void changed(ExpressionTree target) {
                found[0] |= target.toString().equals(name);
            }

            @Override
            public Void visitAssignment(AssignmentTree it, Void none) {
                changed(it.getVariable());
                return super.visitAssignment(it, none);
            }

            @Override
            public Void visitCompoundAssignment(CompoundAssignmentTree it, Void none) {
                changed(it.getVariable());
                return super.visitCompoundAssignment(it, none);
            }

            @Override
            public Void visitUnary(UnaryTree it, Void none) {
                if (STEPS.contains(it.getKind())) {
                    changed(it.getExpression());
                }
                return super.visitUnary(it, none);
            }
        }.scan(body, null);
        return found[0];
    }

    // How many methods deep the calls go, this one among them.
    private int depth(String name, Set<String> above) {
        if (above.contains(name)) {
            broken(8, unit, name + " calls itself over " + above);
            return 0;
        }
        Set<String> here = new HashSet<>(above);
        here.add(name);
        int deepest = 0;
        for (String called : callsOf.getOrDefault(name, Set.of())) {
            deepest = Math.max(deepest, depth(called, here));
        }
        return deepest + 1;
    }

    // ---- rules 1 and 10: methods and calls ----

    @Override
    public Void visitMethod(MethodTree it, Void none) {
        method = it.getName().toString();
        callsOf.putIfAbsent(method, new TreeSet<>());
        Set<Modifier> flags = it.getModifiers().getFlags();
        expect(isSeenAsItMay(flags), 1, it, method + " is neither public nor private");
        expect(!flags.contains(Modifier.SYNCHRONIZED), 6, it, method + " is synchronized");
        (flags.contains(Modifier.PUBLIC) ? publicMethods : privateMethods).add(method);
        expect(it.getParameters().size() <= MOST_PARAMETERS, 10, it, method + " has too many parameters");
        expect(!(it.getReturnType() instanceof ArrayTypeTree), 4, it, method + " answers an array");
        long first = lineOf(positions.getStartPosition(unit, it));
        long last = lineOf(positions.getEndPosition(unit, it));
        expect(last - first < MOST_LINES, 10, it, method + " is too long");
        super.visitMethod(it, none);
        method = null;
        return null;
    }

    @Override
    public Void visitMethodInvocation(MethodInvocationTree it, Void none) {
        expect(inArguments == 0, 10, it, "a call in the arguments of another one: " + it);
        if (it.getMethodSelect() instanceof IdentifierTree called && method != null) {
            callsOf.get(method).add(called.getName().toString());
        } else {
            broken(3, it, "a call of something else than an own method: " + it);
        }
        inArguments++;
        scan(it.getArguments(), none);
        inArguments--;
        return null;
    }

    private void lookAtAll() {
        scan(unit, null);
        for (String name : privateMethods) {
            expect(!publicMethods.contains(name), 1, unit, "a private method has the name of a public one: " + name);
        }
        for (String name : callsOf.keySet()) {
            expect(callsOf.keySet().containsAll(callsOf.get(name)), 3, unit, name + " calls what is not its own");
            expect(depth(name, Set.of()) <= MOST_DEEP, 10, unit, "the calls of " + name + " go too deep");
        }
        expect(fields <= MOST_FIELDS, 10, unit, "too many fields: " + fields);
        expect(publicMethods.size() > 1 && fields > 0, 1, unit, "there is nothing to look at");
    }

    public static void main(String[] args) throws IOException {
        String source = args.length > 0 ? args[0] : SOURCE;
        JavaCompiler compiler = ToolProvider.getSystemJavaCompiler();
        try (StandardJavaFileManager files = compiler.getStandardFileManager(null, null, null)) {
            JavacTask task =
                (JavacTask) compiler.getTask(null, files, null, null, null, files.getJavaFileObjects(source));
            CompilationUnitTree unit = task.parse().iterator().next();
            LanguageTest test = new LanguageTest(unit, Trees.instance(task).getSourcePositions());
            test.lookAtAll();
            System.out.println(test.wrong == 0 ? "the class keeps to the rules" : test.wrong + " rules are broken");
            if (test.wrong != 0) {
                System.exit(1);
            }
        }
    }
}
