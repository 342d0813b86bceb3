import com.sun.source.tree.ArrayTypeTree;
import com.sun.source.tree.AssignmentTree;
import com.sun.source.tree.BinaryTree;
import com.sun.source.tree.BlockTree;
import com.sun.source.tree.ClassTree;
import com.sun.source.tree.CompilationUnitTree;
import com.sun.source.tree.CompoundAssignmentTree;
import com.sun.source.tree.ExpressionTree;
import com.sun.source.tree.ForLoopTree;
import com.sun.source.tree.MemberSelectTree;
import com.sun.source.tree.MethodInvocationTree;
import com.sun.source.tree.MethodTree;
import com.sun.source.tree.NewArrayTree;
import com.sun.source.tree.PrimitiveTypeTree;
import com.sun.source.tree.Tree;
import com.sun.source.tree.TypeCastTree;
import com.sun.source.tree.UnaryTree;
import com.sun.source.tree.VariableTree;
import com.sun.source.util.JavacTask;
import com.sun.source.util.TreeScanner;
import com.sun.source.util.Trees;
import java.io.IOException;
import java.net.URI;
import java.util.ArrayList;
import java.util.List;
import java.util.Map;
import java.util.Set;
import java.util.TreeMap;
import java.util.TreeSet;
import javax.lang.model.element.Modifier;
import javax.lang.model.type.TypeKind;
import javax.tools.DiagnosticCollector;
import javax.tools.JavaCompiler;
import javax.tools.JavaFileObject;
import javax.tools.SimpleJavaFileObject;
import javax.tools.ToolProvider;

/**
 * Reads a source and tells where it leaves LANGUAGE.md, each fault with the number of its rule first.
 * Where a rule can't be read off the text, a narrower form is asked that can: each loop is a for with
 * a counter of its own, and each array field is final.
 */
final class LanguageRules extends TreeScanner<Void, Void> {
    private static final int MOST_PARAMETERS = 7;
    private static final int MOST_LINES = 60;
    private static final int MOST_DEEP = 6;
    private static final int MOST_FIELDS = 40;

    /** What never stands in the class outside the initialiser of an array field, with the rule against it. */
    private static final Map<Tree.Kind, Integer> FORBIDDEN = Map.ofEntries(
            Map.entry(Tree.Kind.STRING_LITERAL, 2),
            Map.entry(Tree.Kind.FLOAT_LITERAL, 2),
            Map.entry(Tree.Kind.DOUBLE_LITERAL, 2),
            Map.entry(Tree.Kind.NULL_LITERAL, 4),
            Map.entry(Tree.Kind.NEW_ARRAY, 4),
            Map.entry(Tree.Kind.NEW_CLASS, 4),
            Map.entry(Tree.Kind.THROW, 6),
            Map.entry(Tree.Kind.TRY, 6),
            Map.entry(Tree.Kind.SYNCHRONIZED, 6),
            Map.entry(Tree.Kind.ASSERT, 6),
            Map.entry(Tree.Kind.INSTANCE_OF, 6),
            Map.entry(Tree.Kind.LAMBDA_EXPRESSION, 6),
            Map.entry(Tree.Kind.MEMBER_REFERENCE, 6),
            Map.entry(Tree.Kind.WHILE_LOOP, 8),
            Map.entry(Tree.Kind.DO_WHILE_LOOP, 8),
            Map.entry(Tree.Kind.ENHANCED_FOR_LOOP, 8));

    private final List<String> faults = new ArrayList<>();
    private final Map<String, Set<String>> calls = new TreeMap<>();
    private final Trees trees;
    private CompilationUnitTree unit;
    private String method = "";
    private boolean insideClass;

    private LanguageRules(Trees trees) {
        this.trees = trees;
    }

    static List<String> faultsOf(String source) throws IOException {
        JavaCompiler compiler = ToolProvider.getSystemJavaCompiler();
        JavaFileObject file = new SimpleJavaFileObject(
                URI.create("string:///LazyPatMatch.java"), JavaFileObject.Kind.SOURCE) {
            @Override
            public CharSequence getCharContent(boolean ignoreEncodingErrors) {
                return source;
            }
        };
        DiagnosticCollector<JavaFileObject> complaints = new DiagnosticCollector<>();
        JavacTask task = (JavacTask) compiler.getTask(null, null, complaints, null, null, List.of(file));
        LanguageRules rules = new LanguageRules(Trees.instance(task));
        for (CompilationUnitTree unit : task.parse()) {
            rules.scan(unit, null);
        }
        if (!complaints.getDiagnostics().isEmpty()) {
            throw new IllegalArgumentException(complaints.getDiagnostics() + " in " + source);
        }
        rules.callsOfAll();
        return rules.faults;
    }

    private void fault(int rule, String what) {
        faults.add(rule + ": " + what + (method.isEmpty() ? "" : " in " + method));
    }

    @Override
    public Void scan(Tree node, Void none) {
        if (node != null && FORBIDDEN.containsKey(node.getKind())) {
            fault(FORBIDDEN.get(node.getKind()), node.getKind() + " " + node);
        }
        return super.scan(node, none);
    }

    @Override
    public Void visitCompilationUnit(CompilationUnitTree node, Void none) {
        unit = node;
        if (node.getPackageName() != null) {
            fault(1, "a package line");
        }
        if (node.getTypeDecls().size() != 1) {
            fault(1, node.getTypeDecls().size() + " types in one file");
        }
        if (!node.getImports().isEmpty()) {
            fault(3, "an import");
        }
        return super.visitCompilationUnit(node, none);
    }

    @Override
    public Void visitClass(ClassTree node, Void none) {
        if (insideClass || node.getKind() != Tree.Kind.CLASS) {
            fault(1, "the nested or other type " + node.getSimpleName());
        }
        insideClass = true;
        int fields = 0;
        for (Tree member : node.getMembers()) {
            if (member instanceof VariableTree) {
                fields += field((VariableTree) member);
            }
            if (member instanceof BlockTree) {
                fault(5, "an initialiser block");
            }
        }
        if (fields > MOST_FIELDS) {
            fault(10, fields + " fields");
        }
        return super.visitClass(node, none);
    }

    /** Answers how many fields beside the constants this one is. */
    private int field(VariableTree node) {
        Set<Modifier> flags = node.getModifiers().getFlags();
        boolean constant = flags.contains(Modifier.STATIC);
        if (constant && !isConstant(node, flags)) {
            fault(5, "the static field " + node.getName());
        }
        if (node.getType() instanceof ArrayTypeTree) {
            if (!flags.contains(Modifier.FINAL)) {
                fault(4, "the array field " + node.getName() + " is not final");
            }
            arrayMade(node);
        }
        return constant ? 0 : 1;
    }

    /** A number made of literals and of names in capitals, which are constants too. */
    private static boolean isConstant(VariableTree node, Set<Modifier> flags) {
        String type = String.valueOf(node.getType());
        return flags.contains(Modifier.FINAL) && (type.equals("int") || type.equals("long"))
                && String.valueOf(node.getInitializer()).matches("[A-Z0-9_ +*-]+");
    }

    private void arrayMade(VariableTree node) {
        boolean sound = false;
        if (node.getInitializer() instanceof NewArrayTree) {
            NewArrayTree made = (NewArrayTree) node.getInitializer();
            sound = made.getDimensions().size() == 1 && made.getInitializers() == null
                    && isLength(made.getDimensions().get(0));
        }
        if (!sound) {
            fault(4, "the array field " + node.getName() + " is not made with a plain length");
        }
    }

    /** A literal, or the name of a constant, which stands in capitals. */
    private static boolean isLength(ExpressionTree length) {
        return length.toString().matches("[1-9][0-9]*|[A-Z][A-Z0-9_]*");
    }

    @Override
    public Void visitVariable(VariableTree node, Void none) {
        allowed(node.getType(), "the type of " + node.getName());
        boolean field = method.isEmpty();
        if (field && node.getInitializer() instanceof NewArrayTree) {
            return null;
        }
        return super.visitVariable(node, none);
    }

    private void allowed(Tree type, String what) {
        Tree element = type instanceof ArrayTypeTree ? ((ArrayTypeTree) type).getType() : type;
        TypeKind kind = element instanceof PrimitiveTypeTree
                ? ((PrimitiveTypeTree) element).getPrimitiveTypeKind() : TypeKind.NONE;
        if (!kind.isPrimitive() || kind == TypeKind.FLOAT || kind == TypeKind.DOUBLE) {
            fault(2, what);
        }
    }

    @Override
    public Void visitMethod(MethodTree node, Void none) {
        method = node.getName().toString();
        calls.computeIfAbsent(method, name -> new TreeSet<>());
        Tree answer = node.getReturnType();
        if (answer instanceof ArrayTypeTree) {
            fault(4, "an array is answered");
        } else if (answer != null && !answer.toString().equals("void")) {
            allowed(answer, "the type of the answer");
        }
        if (node.getParameters().size() > MOST_PARAMETERS) {
            fault(10, node.getParameters().size() + " parameters");
        }
        long lines = line(trees.getSourcePositions().getEndPosition(unit, node))
                - line(trees.getSourcePositions().getStartPosition(unit, node)) + 1;
        if (lines > MOST_LINES) {
            fault(10, lines + " lines");
        }
        super.visitMethod(node, none);
        method = "";
        return null;
    }

    private long line(long position) {
        return unit.getLineMap().getLineNumber(position);
    }

    @Override
    public Void visitMemberSelect(MemberSelectTree node, Void none) {
        boolean own = node.getExpression().toString().equals("this");
        if (!own && !node.getIdentifier().contentEquals("length")) {
            fault(3, "the name " + node);
        }
        return super.visitMemberSelect(node, none);
    }

    @Override
    public Void visitMethodInvocation(MethodInvocationTree node, Void none) {
        calls.computeIfAbsent(method, name -> new TreeSet<>()).add(node.getMethodSelect().toString());
        TreeScanner<Void, Void> inArguments = new TreeScanner<>() {
            @Override
            public Void visitMethodInvocation(MethodInvocationTree inner, Void nothing) {
                fault(10, inner + " stands inside the arguments of another call");
                return null;
            }
        };
        inArguments.scan(node.getArguments(), null);
        return super.visitMethodInvocation(node, none);
    }

    @Override
    public Void visitTypeCast(TypeCastTree node, Void none) {
        if (!(node.getType() instanceof PrimitiveTypeTree)) {
            fault(6, "a cast of a reference");
        }
        return super.visitTypeCast(node, none);
    }

    @Override
    public Void visitForLoop(ForLoopTree node, Void none) {
        boolean counted = node.getInitializer().size() == 1 && node.getUpdate().size() == 1
                && node.getInitializer().get(0) instanceof VariableTree;
        if (counted) {
            String counter = ((VariableTree) node.getInitializer().get(0)).getName().toString();
            String update = node.getUpdate().get(0).getExpression().toString();
            boolean up = update.equals(counter + "++");
            boolean down = update.equals(counter + "--");
            counted = (up || down) && bounds(node.getCondition(), counter, up)
                    && !assigns(node.getStatement(), counter);
        }
        if (!counted) {
            fault(8, "the for at line " + line(trees.getSourcePositions().getStartPosition(unit, node)));
        }
        return super.visitForLoop(node, none);
    }

    /** Whether the condition is, or demands beside others, that the counter has not reached a bound. */
    private static boolean bounds(ExpressionTree condition, String counter, boolean up) {
        if (!(condition instanceof BinaryTree)) {
            return false;
        }
        BinaryTree both = (BinaryTree) condition;
        switch (both.getKind()) {
            case CONDITIONAL_AND:
                return bounds(both.getLeftOperand(), counter, up) || bounds(both.getRightOperand(), counter, up);
            case LESS_THAN:
            case LESS_THAN_EQUAL:
                return up && both.getLeftOperand().toString().equals(counter);
            case GREATER_THAN:
            case GREATER_THAN_EQUAL:
                return !up && both.getLeftOperand().toString().equals(counter);
            default:
                return false;
        }
    }

    private static boolean assigns(Tree body, String name) {
        List<String> assigned = new ArrayList<>();
        new TreeScanner<Void, Void>() {
            @Override
            public Void visitAssignment(AssignmentTree node, Void none) {
                assigned.add(node.getVariable().toString());
                return super.visitAssignment(node, none);
            }

            @Override
            public Void visitCompoundAssignment(CompoundAssignmentTree node, Void none) {
                assigned.add(node.getVariable().toString());
                return super.visitCompoundAssignment(node, none);
            }

            @Override
            public Void visitUnary(UnaryTree node, Void none) {
                boolean step = node.toString().contains("++") || node.toString().contains("--");
                assigned.add(step ? node.getExpression().toString() : "");
                return super.visitUnary(node, none);
            }
        }.scan(body, null);
        return assigned.contains(name);
    }

    private void callsOfAll() {
        for (String name : calls.keySet()) {
            for (String called : calls.get(name)) {
                if (!calls.containsKey(called)) {
                    fault(3, name + " calls " + called + ", which is not a method of the class");
                }
            }
        }
        for (String name : calls.keySet()) {
            deep(name, new ArrayList<>());
        }
    }

    /** Goes down the calls from this method; way: the methods that led here. */
    private void deep(String name, List<String> way) {
        if (way.contains(name)) {
            fault(8, "recursion of " + name);
            return;
        }
        List<String> here = new ArrayList<>(way);
        here.add(name);
        if (here.size() == MOST_DEEP + 1) {
            fault(10, "calls more than " + MOST_DEEP + " deep: " + here);
            return;
        }
        for (String called : calls.getOrDefault(name, Set.of())) {
            deep(called, here);
        }
    }
}
