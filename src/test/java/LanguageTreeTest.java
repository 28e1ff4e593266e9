import com.sun.source.tree.BinaryTree;
import com.sun.source.tree.BlockTree;
import com.sun.source.tree.ClassTree;
import com.sun.source.tree.CompilationUnitTree;
import com.sun.source.tree.ForLoopTree;
import com.sun.source.tree.MethodInvocationTree;
import com.sun.source.tree.MethodTree;
import com.sun.source.tree.NewArrayTree;
import com.sun.source.tree.NewClassTree;
import com.sun.source.tree.Tree;
import com.sun.source.tree.TypeCastTree;
import com.sun.source.tree.VariableTree;
import com.sun.source.tree.WhileLoopTree;
import com.sun.source.util.JavacTask;
import com.sun.source.util.TreePathScanner;
import com.sun.source.util.Trees;
import java.io.IOException;
import java.nio.file.Path;
import java.util.HashMap;
import java.util.HashSet;
import java.util.List;
import java.util.Map;
import java.util.Set;
import java.util.TreeMap;
import java.util.TreeSet;
import javax.lang.model.element.Element;
import javax.lang.model.element.ExecutableElement;
import javax.lang.model.element.Modifier;
import javax.lang.model.type.TypeKind;
import javax.lang.model.type.TypeMirror;
import javax.tools.JavaCompiler;
import javax.tools.StandardJavaFileManager;
import javax.tools.ToolProvider;

/** Rules of LANGUAGE.md that need the file as the compiler sees it: what is called, made and held, and how deep. */
public final class LanguageTreeTest extends TreePathScanner<Void, Void> {
    private static final Check CHECK = new Check();
    private static final Path FILE = Path.of("src/main/java/TuneDoor.java");
    private static final Set<String> LIBRARY = Set.of("Math.min", "Math.max", "Math.floorDiv", "Math.floorMod",
        "Integer.bitCount", "String.length", "String.charAt", "Arrays.fill");
    private static final Set<String> TYPES = Set.of("int", "long", "boolean", "char", "String", "int[]", "int[][]",
        "boolean[]", "Door[]", "Person[]", "TuneDoor", "Person", "Door", "House", "Rules", "Whistles", "Ways", "TuneSet",
        "Forms", "Tokens", "Reader");
    private static final Set<Tree.Kind> FORBIDDEN = Set.of(Tree.Kind.LAMBDA_EXPRESSION, Tree.Kind.MEMBER_REFERENCE,
        Tree.Kind.THROW, Tree.Kind.TRY, Tree.Kind.SYNCHRONIZED, Tree.Kind.ASSERT, Tree.Kind.DO_WHILE_LOOP);
    private static final int DEEPEST = 8;

    private final Trees trees;
    private final Map<String, Set<String>> calls = new TreeMap<>();
    private String method = "";

    private LanguageTreeTest(Trees trees) {
        this.trees = trees;
    }

    public static void main(String[] args) throws IOException {
        JavaCompiler compiler = ToolProvider.getSystemJavaCompiler();
        try (StandardJavaFileManager files = compiler.getStandardFileManager(null, null, null)) {
            JavacTask task = (JavacTask) compiler.getTask(null, files, null, List.of("-proc:none"), null, files.getJavaFileObjects(FILE));
            LanguageTreeTest test = new LanguageTreeTest(Trees.instance(task));
            Iterable<? extends CompilationUnitTree> units = task.parse();
            task.analyze();
            test.scan(units, null);
            test.chains();
        }
        CHECK.close();
    }

    // ---- rules 2 and 6: what may not stand in the file

    @Override
    public Void scan(Tree tree, Void none) {
        if (tree != null) {
            CHECK.due(tree.getKind() + " in " + method, FORBIDDEN.contains(tree.getKind()), false);
        }
        return super.scan(tree, none);
    }

    @Override
    public Void visitClass(ClassTree tree, Void none) {
        Tree around = getCurrentPath().getParentPath().getLeaf();
        boolean outermost = around instanceof CompilationUnitTree;
        CHECK.due(tree.getSimpleName() + " stands in no method", outermost || around instanceof ClassTree, true);
        CHECK.due(tree.getSimpleName() + " is static", outermost || tree.getModifiers().getFlags().contains(Modifier.STATIC), true);
        for (Tree member : tree.getMembers()) {
            CHECK.due(tree.getSimpleName() + " has no block of its own", member instanceof BlockTree, false);
        }
        return super.visitClass(tree, none);
    }

    @Override
    public Void visitTypeCast(TypeCastTree tree, Void none) {
        CHECK.due(tree + " casts a number", tree.getType().toString(), "int");
        return super.visitTypeCast(tree, none);
    }

    @Override
    public Void visitBinary(BinaryTree tree, Void none) {
        TypeMirror type = trees.getTypeMirror(getCurrentPath());
        CHECK.due(tree + " joins no texts", type.getKind().isPrimitive(), true);
        return super.visitBinary(tree, none);
    }

    // ---- rules 3 and 5: what is held

    @Override
    public Void visitVariable(VariableTree tree, Void none) {
        CHECK.due(tree.getName() + " is " + tree.getType(), TYPES.contains(String.valueOf(tree.getType())), true);
        Set<Modifier> flags = tree.getModifiers().getFlags();
        boolean constant = flags.contains(Modifier.STATIC);
        CHECK.due(tree.getName() + " is final", !constant || flags.contains(Modifier.FINAL), true);
        CHECK.due(tree.getName() + " is a plain constant", !constant || isConstant(tree), true);
        return super.visitVariable(tree, none);
    }

    private static boolean isConstant(VariableTree tree) {
        return Set.of("int", "long", "boolean", "char", "String").contains(String.valueOf(tree.getType()));
    }

    // ---- rule 9: each loop has a bound in its own lines

    @Override
    public Void visitForLoop(ForLoopTree tree, Void none) {
        CHECK.due(method + ": a for that goes on", tree.getUpdate().isEmpty(), false);
        bounded(tree.getCondition());
        return super.visitForLoop(tree, none);
    }

    @Override
    public Void visitWhileLoop(WhileLoopTree tree, Void none) {
        bounded(tree.getCondition());
        return super.visitWhileLoop(tree, none);
    }

    private void bounded(Tree condition) {
        CHECK.due(method + ": a bound in " + condition, String.valueOf(condition).matches(".*[<>].*"), true);
    }

    // ---- rules 4, 11 and 12: what is called and made

    @Override
    public Void visitMethod(MethodTree tree, Void none) {
        String outer = method;
        method = nameOf(trees.getElement(getCurrentPath()));
        calls.computeIfAbsent(method, name -> new TreeSet<>());
        CHECK.due(method + " takes at most seven", tree.getParameters().size() <= 7, true);
        super.visitMethod(tree, none);
        method = outer;
        return null;
    }

    private static String nameOf(Element element) {
        return element.getEnclosingElement().getSimpleName() + "." + element.getSimpleName();
    }

    @Override
    public Void visitMethodInvocation(MethodInvocationTree tree, Void none) {
        Element called = trees.getElement(getCurrentPath());
        if (!called.getSimpleName().contentEquals("<init>")) {
            note((ExecutableElement) called);
        }
        return super.visitMethodInvocation(tree, none);
    }

    private void note(ExecutableElement called) {
        String name = nameOf(called);
        boolean own = called.getEnclosingElement().toString().startsWith("TuneDoor");
        CHECK.due(name + " is the class's own or of the library", own || LIBRARY.contains(name), true);
        if (own) {
            calls.computeIfAbsent(method, caller -> new TreeSet<>()).add(name);
        }
    }

    @Override
    public Void visitNewClass(NewClassTree tree, Void none) {
        CHECK.due(tree + " has no body", tree.getClassBody() == null, true);
        CHECK.due(tree + " is made by a constructor", isAtConstruction(), true);
        return super.visitNewClass(tree, none);
    }

    @Override
    public Void visitNewArray(NewArrayTree tree, Void none) {
        CHECK.due(tree + " is made by a constructor", isAtConstruction(), true);
        TypeMirror type = trees.getTypeMirror(getCurrentPath());
        CHECK.due(tree + " is a row", type.getKind() == TypeKind.ARRAY, true);
        return super.visitNewArray(tree, none);
    }

    private boolean isAtConstruction() {
        return method.isEmpty() || method.endsWith(".<init>");
    }

    // ---- rules 8 and 11: how deep calls go; those that call themselves again count as one

    private void chains() {
        Set<String> again = new TreeSet<>();
        for (String name : calls.keySet()) {
            if (reached(name).contains(name)) {
                again.add(name);
            }
        }
        CHECK.due("recursion is in " + again, String.join(" ", again), "Reader.readBoth Reader.readFact Reader.readPairOfSums "
            + "Reader.readPart Reader.readProduct Reader.readSum Reader.readTest Ways.walk");
        Map<String, Integer> known = new HashMap<>();
        for (String name : calls.keySet()) {
            int deep = deep(name, known);
            CHECK.due(name + " goes " + deep + " deep", deep <= DEEPEST, true);
        }
    }

    private Set<String> reached(String from) {
        Set<String> seen = new HashSet<>();
        List<String> open = new java.util.ArrayList<>(calls.getOrDefault(from, Set.of()));
        while (!open.isEmpty()) {
            String name = open.remove(open.size() - 1);
            if (seen.add(name)) {
                open.addAll(calls.getOrDefault(name, Set.of()));
            }
        }
        return seen;
    }

    /** The longest chain from here on, all methods of one recursion being one link. */
    private int deep(String name, Map<String, Integer> known) {
        Integer before = known.get(name);
        if (before != null) {
            return before;
        }
        Set<String> circle = circleOf(name);
        int most = 0;
        for (String member : circle) {
            for (String next : calls.getOrDefault(member, Set.of())) {
                if (!circle.contains(next)) {
                    most = Math.max(most, deep(next, known));
                }
            }
        }
        known.put(name, most + 1);
        return most + 1;
    }

    private Set<String> circleOf(String name) {
        Set<String> circle = new TreeSet<>(Set.of(name));
        for (String other : reached(name)) {
            if (reached(other).contains(name)) {
                circle.add(other);
            }
        }
        return circle;
    }
}
