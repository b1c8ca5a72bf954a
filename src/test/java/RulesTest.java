import com.sun.source.tree.BinaryTree;
import com.sun.source.tree.CompilationUnitTree;
import com.sun.source.tree.ExpressionTree;
import com.sun.source.tree.LiteralTree;
import com.sun.source.tree.MethodInvocationTree;
import com.sun.source.tree.MethodTree;
import com.sun.source.tree.NewArrayTree;
import com.sun.source.tree.NewClassTree;
import com.sun.source.tree.SwitchTree;
import com.sun.source.tree.ThrowTree;
import com.sun.source.tree.Tree;
import com.sun.source.tree.TypeCastTree;
import com.sun.source.tree.VariableTree;
import com.sun.source.util.JavacTask;
import com.sun.source.util.TreePath;
import com.sun.source.util.TreePathScanner;
import com.sun.source.util.Trees;
import java.io.IOException;
import java.util.ArrayList;
import java.util.EnumSet;
import java.util.HashMap;
import java.util.List;
import java.util.Map;
import java.util.Set;
import java.util.TreeMap;
import java.util.TreeSet;
import javax.lang.model.element.Element;
import javax.lang.model.element.ExecutableElement;
import javax.lang.model.element.Modifier;
import javax.lang.model.element.VariableElement;
import javax.lang.model.type.TypeKind;
import javax.lang.model.type.TypeMirror;
import javax.tools.JavaCompiler;
import javax.tools.StandardJavaFileManager;
import javax.tools.ToolProvider;

/** The rules of LANGUAGE.md that javac's own tree of the class shows: what it calls, makes, throws, and how deep calls go. */
public final class RulesTest extends TreePathScanner<Void, String> {
    private static final String FILE = "src/main/java/LeapCapital.java";
    private static final Set<Tree.Kind> NEVER = EnumSet.of(Tree.Kind.LAMBDA_EXPRESSION, Tree.Kind.MEMBER_REFERENCE, Tree.Kind.TRY,
            Tree.Kind.SYNCHRONIZED, Tree.Kind.ASSERT, Tree.Kind.SWITCH_EXPRESSION, Tree.Kind.INSTANCE_OF);
    private static final Set<String> LIBRARY = Set.of("java.lang.Math.max", "java.lang.Math.min", "java.lang.Math.floorMod",
            "java.lang.Integer.bitCount", "java.lang.String.length", "java.lang.String.charAt");
    /** The guarded parameter of draw: all other divisors are written as numbers that are not 0. */
    private static final String GUARDED_DIVISOR = "below";
    private static final int DEEPEST = 8;

    private final Trees trees;
    private final Map<String, Set<String>> calls = new TreeMap<>();
    private final Map<String, Set<String>> parameters = new TreeMap<>();
    private final Set<String> constructors = new TreeSet<>();
    private final Map<String, List<String>> longest = new HashMap<>();

    private RulesTest(Trees trees) {
        this.trees = trees;
    }

    public static void main(String[] args) throws IOException {
        JavaCompiler compiler = ToolProvider.getSystemJavaCompiler();
        try (StandardJavaFileManager files = compiler.getStandardFileManager(null, null, null)) {
            JavacTask task = (JavacTask) compiler.getTask(null, files, null, List.of("-proc:none"), null, files.getJavaFileObjects(FILE));
            Iterable<? extends CompilationUnitTree> units = task.parse();
            task.analyze();
            RulesTest rules = new RulesTest(Trees.instance(task));
            for (CompilationUnitTree unit : units) {
                rules.scan(unit, "");
            }
            rules.recursion();
            rules.depth();
        }
        Check.end();
    }

    private void due(String rule, Tree tree, boolean holds) {
        Check.due("rule " + rule + ": " + tree, holds, true);
    }

    @Override
    public Void scan(Tree tree, String method) {
        if (tree != null) {
            Check.due("rule 2, 6: " + tree.getKind(), NEVER.contains(tree.getKind()), false);
        }
        return super.scan(tree, method);
    }

    private static String nameOf(Element element) {
        return element.getEnclosingElement() + "." + element.getSimpleName();
    }

    private static boolean isOwn(String name) {
        return name.startsWith("LeapCapital");
    }

    @Override
    public Void visitMethod(MethodTree tree, String outer) {
        String name = nameOf(trees.getElement(getCurrentPath()));
        Set<String> told = new TreeSet<>();
        for (VariableTree one : tree.getParameters()) {
            told.add(one.getName().toString());
        }
        parameters.put(name, told);
        calls.putIfAbsent(name, new TreeSet<>());
        if (tree.getName().contentEquals("<init>")) {
            constructors.add(name);
        }
        return super.visitMethod(tree, name);
    }

    @Override
    public Void visitMethodInvocation(MethodInvocationTree tree, String method) {
        ExecutableElement called = (ExecutableElement) trees.getElement(getCurrentPath());
        String name = nameOf(called);
        boolean superOfObject = name.equals("java.lang.Object.<init>");
        if (isOwn(name)) {
            calls.computeIfAbsent(method, key -> new TreeSet<>()).add(name);
            boolean fixed = called.getEnclosingElement().getModifiers().contains(Modifier.FINAL);
            due("12 (nobody can override it)", tree, fixed);
        } else {
            due("4 (not in the library)", tree, superOfObject || LIBRARY.contains(name));
        }
        return super.visitMethodInvocation(tree, method);
    }

    /** Objects are made with the object itself, none by a call; what a constructor makes is handed nothing. */
    @Override
    public Void visitNewClass(NewClassTree tree, String method) {
        boolean thrown = getCurrentPath().getParentPath().getLeaf().getKind() == Tree.Kind.THROW;
        due("12 (made by a call)", tree, thrown || method.isEmpty() || constructors.contains(method));
        due("12 (handed out)", tree, tree.getArguments().isEmpty());
        due("2 (a class without a name)", tree, tree.getClassBody() == null);
        return super.visitNewClass(tree, method);
    }

    @Override
    public Void visitNewArray(NewArrayTree tree, String method) {
        due("12 (made by a call)", tree, method.isEmpty());
        due("3 (one dimension)", tree, tree.getDimensions().size() == 1);
        return super.visitNewArray(tree, method);
    }

    @Override
    public Void visitThrow(ThrowTree tree, String method) {
        due("6 (only rests throws)", tree, method.equals("LeapCapital.rests"));
        due("6", tree, tree.getExpression().toString().equals("new NoSuchElementException()"));
        return super.visitThrow(tree, method);
    }

    @Override
    public Void visitVariable(VariableTree tree, String method) {
        VariableElement variable = (VariableElement) trees.getElement(getCurrentPath());
        TypeMirror type = variable.asType();
        boolean text = type.toString().equals("java.lang.String");
        String bare = type.toString().replaceFirst("\\[\\]$", "");
        boolean number = Set.of("int", "long", "char", "boolean").contains(bare);
        due("3 (its type)", tree, number || text || isOwn(bare));
        if (variable.getModifiers().contains(Modifier.STATIC)) {
            due("5 (a constant)", tree, variable.getConstantValue() != null);
        }
        return super.visitVariable(tree, method);
    }

    private TypeMirror typeOf(Tree tree) {
        return trees.getTypeMirror(new TreePath(getCurrentPath(), tree));
    }

    @Override
    public Void visitBinary(BinaryTree tree, String method) {
        ExpressionTree right = tree.getRightOperand();
        Tree.Kind kind = tree.getKind();
        if (kind == Tree.Kind.DIVIDE || kind == Tree.Kind.REMAINDER) {
            boolean written = right instanceof LiteralTree literal && ((Number) literal.getValue()).longValue() != 0;
            due("7 (its divisor)", tree, written || right.toString().equals(GUARDED_DIVISOR));
        }
        if (kind == Tree.Kind.PLUS) {
            due("10 (joining texts)", tree, typeOf(tree).getKind().isPrimitive());
        }
        if (kind == Tree.Kind.EQUAL_TO || kind == Tree.Kind.NOT_EQUAL_TO) {
            boolean null1 = right.getKind() == Tree.Kind.NULL_LITERAL;
            due("6 (== of objects)", tree, null1 || typeOf(right).getKind().isPrimitive());
        }
        return super.visitBinary(tree, method);
    }

    @Override
    public Void visitTypeCast(TypeCastTree tree, String method) {
        due("6 (a cast)", tree, typeOf(tree.getExpression()).getKind().isPrimitive());
        return super.visitTypeCast(tree, method);
    }

    @Override
    public Void visitSwitch(SwitchTree tree, String method) {
        due("10 (a switch on numbers)", tree, typeOf(tree.getExpression()).getKind() == TypeKind.INT);
        return super.visitSwitch(tree, method);
    }

    // ---- who calls whom ----

    private Set<String> reachedFrom(String method) {
        Set<String> reached = new TreeSet<>();
        List<String> open = new ArrayList<>(calls.getOrDefault(method, Set.of()));
        while (!open.isEmpty()) {
            String one = open.remove(open.size() - 1);
            if (reached.add(one)) {
                open.addAll(calls.getOrDefault(one, Set.of()));
            }
        }
        return reached;
    }

    /** All methods that call this one and are called by it, with itself. */
    private Set<String> circleOf(String method) {
        Set<String> circle = new TreeSet<>(Set.of(method));
        for (String one : reachedFrom(method)) {
            if (reachedFrom(one).contains(method)) {
                circle.add(one);
            }
        }
        return circle;
    }

    private void recursion() {
        for (String method : calls.keySet()) {
            if (reachedFrom(method).contains(method)) {
                boolean carried = parameters.getOrDefault(method, Set.of()).contains("depth");
                Check.due("rule 8: " + method + " carries its depth", carried, true);
            }
        }
    }

    private void depth() {
        for (String method : calls.keySet()) {
            List<String> chain = longestFrom(method);
            Check.due("rule 11: " + chain + " is no deeper than " + DEEPEST, chain.size() <= DEEPEST, true);
        }
    }

    /** The longest chain of calls from here; methods that call one another are one link of it. */
    private List<String> longestFrom(String method) {
        List<String> known = longest.get(method);
        if (known != null) {
            return known;
        }
        Set<String> circle = circleOf(method);
        List<String> behind = List.of();
        for (String one : circle) {
            for (String called : calls.getOrDefault(one, Set.of())) {
                List<String> chain = circle.contains(called) ? List.of() : longestFrom(called);
                behind = chain.size() > behind.size() ? chain : behind;
            }
        }
        List<String> chain = new ArrayList<>(List.of(String.join("/", circle)));
        chain.addAll(behind);
        longest.put(method, chain);
        return chain;
    }
}
