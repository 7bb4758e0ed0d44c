import com.sun.source.tree.CompilationUnitTree;
import com.sun.source.tree.DoWhileLoopTree;
import com.sun.source.tree.EnhancedForLoopTree;
import com.sun.source.tree.ForLoopTree;
import com.sun.source.tree.MethodInvocationTree;
import com.sun.source.tree.MethodTree;
import com.sun.source.tree.NewArrayTree;
import com.sun.source.tree.NewClassTree;
import com.sun.source.tree.Tree;
import com.sun.source.tree.VariableTree;
import com.sun.source.tree.WhileLoopTree;
import com.sun.source.util.JavacTask;
import com.sun.source.util.TreePath;
import com.sun.source.util.TreePathScanner;
import com.sun.source.util.Trees;
import java.io.IOException;
import java.nio.file.Path;
import java.util.LinkedHashMap;
import java.util.LinkedHashSet;
import java.util.List;
import java.util.Map;
import java.util.Set;
import javax.lang.model.element.Element;
import javax.lang.model.element.ElementKind;
import javax.lang.model.element.ExecutableElement;
import javax.lang.model.element.Modifier;
import javax.tools.JavaCompiler;
import javax.tools.StandardJavaFileManager;
import javax.tools.ToolProvider;

/** The rules of LANGUAGE.md that are seen in the source alone, read by javac's own parser. */
public final class SourceRulesTest extends TreePathScanner<Void, Void> {
    private static final Path SOURCE = Path.of("src/main/java/NeededStop.java");
    private static final int MOST_LINES = 60, MOST_PARAMETERS = 7, MOST_DEPTH = 8;
    // What the class uses of rule 4's list; another call of that list is added here with its first use.
    private static final Set<String> LIBRARY = Set.of("java.lang.String.length", "java.lang.String.charAt", "java.lang.Integer.bitCount",
        "java.lang.Math.min", "java.lang.Math.max", "java.lang.System.arraycopy", "java.util.Arrays.fill");
    private static final Set<String> TYPES = Set.of("int", "long", "boolean", "java.lang.String", "int[]", "boolean[]");

    private final Calls calls = new Calls();
    private final Trees trees;
    private final CompilationUnitTree unit;
    private final Map<Element, Set<Element>> callees = new LinkedHashMap<>();

    private SourceRulesTest(Trees trees, CompilationUnitTree unit) {
        this.trees = trees;
        this.unit = unit;
    }

    public static void main(String[] args) throws IOException {
        JavaCompiler compiler = ToolProvider.getSystemJavaCompiler();
        try (StandardJavaFileManager files = compiler.getStandardFileManager(null, null, null)) {
            JavacTask task = (JavacTask) compiler.getTask(null, files, null, List.of("-proc:none"), null, files.getJavaFileObjects(SOURCE));
            CompilationUnitTree unit = task.parse().iterator().next();
            task.analyze();
            SourceRulesTest test = new SourceRulesTest(Trees.instance(task), unit);
            test.scan(unit, null);
            test.callsAreNotTooDeep();
            test.calls.end("SourceRulesTest");
        }
    }

    private void holds(String rule, boolean held) {
        calls.due(rule, held ? 1 : 0, 1);
    }

    private Element elementOf(Tree tree) {
        return trees.getElement(new TreePath(getCurrentPath(), tree));
    }

    private long lineOf(long position) {
        return unit.getLineMap().getLineNumber(position);
    }

    private String lineOf(Tree tree) {
        return "line " + lineOf(trees.getSourcePositions().getStartPosition(unit, tree)) + ": ";
    }

    private MethodTree methodAround() {
        for (TreePath path = getCurrentPath(); path != null; path = path.getParentPath()) {
            if (path.getLeaf() instanceof MethodTree method) {
                return method;
            }
        }
        return null;
    }

    private static boolean isConstructor(MethodTree method) {
        return method.getName().contentEquals("<init>");
    }

    @Override
    public Void visitMethod(MethodTree tree, Void none) {
        long first = lineOf(trees.getSourcePositions().getStartPosition(unit, tree));
        long last = lineOf(Math.max(0, trees.getSourcePositions().getEndPosition(unit, tree)));
        holds(lineOf(tree) + tree.getName() + " has at most sixty lines", last - first < MOST_LINES);
        holds(lineOf(tree) + tree.getName() + " takes at most seven parameters", tree.getParameters().size() <= MOST_PARAMETERS);
        callees.computeIfAbsent(trees.getElement(getCurrentPath()), method -> new LinkedHashSet<>());
        return super.visitMethod(tree, none);
    }

    @Override
    public Void visitMethodInvocation(MethodInvocationTree tree, Void none) {
        Element called = elementOf(tree.getMethodSelect());
        String owner = called.getEnclosingElement().toString();
        MethodTree caller = methodAround();
        if (owner.startsWith("NeededStop") && caller != null) {
            callees.computeIfAbsent(trees.getElement(pathOf(caller)), method -> new LinkedHashSet<>()).add(called);
        } else if (called.getKind() == ElementKind.METHOD) {
            holds(lineOf(tree) + "the library's " + owner + "." + called.getSimpleName(), LIBRARY.contains(owner + "." + called.getSimpleName()));
        }
        return super.visitMethodInvocation(tree, none);
    }

    private TreePath pathOf(Tree tree) {
        TreePath path = getCurrentPath();
        while (path.getLeaf() != tree) {
            path = path.getParentPath();
        }
        return path;
    }

    @Override
    public Void visitVariable(VariableTree tree, Void none) {
        String type = trees.getTypeMirror(new TreePath(getCurrentPath(), tree.getType())).toString();
        holds(lineOf(tree) + "the type " + type, TYPES.contains(type) || type.startsWith("NeededStop"));
        Set<Modifier> how = tree.getModifiers().getFlags();
        holds(lineOf(tree) + tree.getName() + " is final, if static", !how.contains(Modifier.STATIC) || how.contains(Modifier.FINAL));
        return super.visitVariable(tree, none);
    }

    // Rows are made once and used again: a call of the face makes neither an object nor an array.
    private void isMadeByAConstructor(Tree tree) {
        MethodTree method = methodAround();
        holds(lineOf(tree) + tree + " is made by a constructor", method == null || isConstructor(method));
    }

    @Override
    public Void visitNewClass(NewClassTree tree, Void none) {
        isMadeByAConstructor(tree);
        holds(lineOf(tree) + "no class without a name", tree.getClassBody() == null);
        return super.visitNewClass(tree, none);
    }

    @Override
    public Void visitNewArray(NewArrayTree tree, Void none) {
        isMadeByAConstructor(tree);
        return super.visitNewArray(tree, none);
    }

    // A loop's end is seen from its own line: a counter of its own that grows by one towards a bound.
    @Override
    public Void visitForLoop(ForLoopTree tree, Void none) {
        boolean hasCounter = tree.getInitializer().size() == 1 && tree.getInitializer().get(0) instanceof VariableTree && tree.getUpdate().size() == 1;
        holds(lineOf(tree) + "a counter of its own", hasCounter);
        if (hasCounter) {
            String counter = ((VariableTree) tree.getInitializer().get(0)).getName().toString();
            holds(lineOf(tree) + "grows by one", tree.getUpdate().get(0).toString().replace(";", "").equals(counter + "++"));
            holds(lineOf(tree) + "has a bound", String.valueOf(tree.getCondition()).matches("(\\(*" + counter + " <=? ).*"));
            holds(lineOf(tree) + "is not set by hand", !tree.getStatement().toString().matches("(?s).*\\b" + counter + " *([-+*/]?=[^=]|--|\\+\\+).*"));
        }
        return super.visitForLoop(tree, none);
    }

    @Override
    public Void visitWhileLoop(WhileLoopTree tree, Void none) {
        holds(lineOf(tree) + "no loop without a counter", false);
        return super.visitWhileLoop(tree, none);
    }

    @Override
    public Void visitDoWhileLoop(DoWhileLoopTree tree, Void none) {
        holds(lineOf(tree) + "no loop without a counter", false);
        return super.visitDoWhileLoop(tree, none);
    }

    @Override
    public Void visitEnhancedForLoop(EnhancedForLoopTree tree, Void none) {
        holds(lineOf(tree) + "no loop over a list", trees.getTypeMirror(new TreePath(getCurrentPath(), tree.getExpression())).toString().endsWith("[]"));
        return super.visitEnhancedForLoop(tree, none);
    }

    private void callsAreNotTooDeep() {
        Map<Element, Integer> depths = new LinkedHashMap<>();
        for (Element method : callees.keySet()) {
            holds(method + " calls at most eight deep, not " + depthOf(method, depths), depthOf(method, depths) <= MOST_DEPTH);
        }
        holds("the face is among them", callees.keySet().stream().anyMatch(method -> method instanceof ExecutableElement && method.getSimpleName().contentEquals("feigned")));
    }

    // A method that is met again below itself is as deep as can be: the class has no recursion.
    private int depthOf(Element method, Map<Element, Integer> depths) {
        if (!depths.containsKey(method)) {
            depths.put(method, 1000);
            int deepest = 0;
            for (Element called : callees.getOrDefault(method, Set.of())) {
                deepest = Math.max(deepest, depthOf(called, depths));
            }
            depths.put(method, deepest + 1);
        }
        return depths.get(method);
    }
}
