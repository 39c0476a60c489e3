import com.sun.source.tree.AssertTree;
import com.sun.source.tree.BinaryTree;
import com.sun.source.tree.CatchTree;
import com.sun.source.tree.ClassTree;
import com.sun.source.tree.CompilationUnitTree;
import com.sun.source.tree.CompoundAssignmentTree;
import com.sun.source.tree.ImportTree;
import com.sun.source.tree.LambdaExpressionTree;
import com.sun.source.tree.LineMap;
import com.sun.source.tree.MemberReferenceTree;
import com.sun.source.tree.MethodInvocationTree;
import com.sun.source.tree.MethodTree;
import com.sun.source.tree.NewClassTree;
import com.sun.source.tree.SynchronizedTree;
import com.sun.source.tree.ThrowTree;
import com.sun.source.tree.Tree;
import com.sun.source.tree.TryTree;
import com.sun.source.tree.TypeCastTree;
import com.sun.source.tree.WhileLoopTree;
import com.sun.source.util.JavacTask;
import com.sun.source.util.TreePath;
import com.sun.source.util.TreePathScanner;
import com.sun.source.util.Trees;
import java.io.IOException;
import java.nio.file.Path;
import java.util.ArrayList;
import java.util.LinkedHashMap;
import java.util.List;
import java.util.Map;
import java.util.Set;
import java.util.TreeSet;
import javax.lang.model.element.Element;
import javax.lang.model.element.ElementKind;
import javax.lang.model.element.ExecutableElement;
import javax.lang.model.element.Modifier;
import javax.lang.model.element.TypeElement;
import javax.tools.JavaCompiler;
import javax.tools.StandardJavaFileManager;
import javax.tools.ToolProvider;

/** The rules of LANGUAGE.md that can be seen from the class's text, as the compiler reads it. */
final class RulesTest extends TreePathScanner<Void, Void> {
    private static final Path FILE = Path.of("src/main/java/MarbleFloor.java");
    // Of the library that rule 4 lists, what the class may use as it stands now.
    private static final Set<String> LIBRARY = Set.of(
        "java.lang.System.arraycopy", "java.util.Arrays.fill", "java.lang.Integer.bitCount", "java.lang.Long.bitCount",
        "java.lang.Math.max", "java.lang.Math.min", "java.lang.Object.<init>");
    private static final int DEEPEST_CALLS = 8;
    private static final int LONGEST_METHOD = 60;

    private final Trees trees;
    private final CompilationUnitTree unit;
    private final Map<String, Set<String>> calls = new LinkedHashMap<>();
    private final Set<String> faceMethods = new TreeSet<>();
    private int classes;

    private RulesTest(Trees trees, CompilationUnitTree unit) {
        this.trees = trees;
        this.unit = unit;
    }

    public static void main(String[] args) throws IOException {
        JavaCompiler compiler = ToolProvider.getSystemJavaCompiler();
        try (StandardJavaFileManager files = compiler.getStandardFileManager(null, null, null)) {
            JavacTask task = (JavacTask) compiler.getTask(null, files, null, null, null, files.getJavaFileObjects(FILE));
            for (CompilationUnitTree unit : task.parse()) {
                task.analyze();
                RulesTest rules = new RulesTest(Trees.instance(task), unit);
                rules.scan(unit, null);
                rules.finish();
            }
        }
        Check.finish("RulesTest");
    }

    private void finish() {
        Check.due("rule 11: classes, twelve at most: " + classes, classes <= 12 ? 1 : 0, 1);
        Check.due("methods of the face", faceMethods.size(), 34);
        for (String method : faceMethods) {
            follow(method, List.of());
        }
    }

    /** Rules 8 and 11: no chain of calls comes back to a method, nor does it go more than eight deep. */
    private void follow(String method, List<String> above) {
        Check.due("rule 8: a method that comes back to itself: " + above + " " + method, above.contains(method) ? 1 : 0, 0);
        if (above.contains(method)) {
            return;
        }
        List<String> chain = new ArrayList<>(above);
        chain.add(method);
        Check.due("rule 11: calls that go too deep: " + chain, chain.size() <= DEEPEST_CALLS ? 1 : 0, 1);
        for (String called : calls.getOrDefault(method, Set.of())) {
            follow(called, chain);
        }
    }

    private String place(Tree tree) {
        return "line " + unit.getLineMap().getLineNumber(trees.getSourcePositions().getStartPosition(unit, tree));
    }

    private void barred(String rule, Tree tree) {
        Check.dueText(place(tree) + ": " + rule, tree.toString(), "");
    }

    @Override
    public Void visitImport(ImportTree tree, Void none) {
        Check.dueText("rule 4: an import", tree.getQualifiedIdentifier().toString(), "java.util.Arrays");
        return null;
    }

    @Override
    public Void visitClass(ClassTree tree, Void none) {
        classes++;
        Element element = trees.getElement(getCurrentPath());
        boolean outer = element.getSimpleName().contentEquals("MarbleFloor");
        ElementKind around = element.getEnclosingElement().getKind();
        boolean inside = around == ElementKind.CLASS && element.getModifiers().contains(Modifier.STATIC);
        Check.due("rule 2: " + element + " is static, and neither local nor without a name", outer || inside ? 1 : 0, 1);
        return super.visitClass(tree, none);
    }

    @Override
    public Void visitMethod(MethodTree tree, Void none) {
        Element method = trees.getElement(getCurrentPath());
        String name = nameOf(method);
        calls.putIfAbsent(name, new TreeSet<>());
        if (method.getModifiers().contains(Modifier.PUBLIC) && method.getKind() == ElementKind.METHOD) {
            faceMethods.add(name);
        }
        Check.due("rule 11: parameters of " + name, tree.getParameters().size() <= 7 ? 1 : 0, 1);
        LineMap lines = unit.getLineMap();
        long from = lines.getLineNumber(trees.getSourcePositions().getStartPosition(unit, tree));
        long to = lines.getLineNumber(trees.getSourcePositions().getEndPosition(unit, tree));
        Check.due("rule 11: lines of " + name, to - from < LONGEST_METHOD ? 1 : 0, 1);
        return super.visitMethod(tree, none);
    }

    @Override
    public Void visitMethodInvocation(MethodInvocationTree tree, Void none) {
        noteCall(trees.getElement(getCurrentPath()), tree);
        return super.visitMethodInvocation(tree, none);
    }

    @Override
    public Void visitNewClass(NewClassTree tree, Void none) {
        Element made = trees.getElement(getCurrentPath());
        noteCall(made, tree);
        TreePath around = getCurrentPath();
        while (around != null && !(around.getLeaf() instanceof MethodTree)) {
            around = around.getParentPath();
        }
        boolean constructing = around == null || ((MethodTree) around.getLeaf()).getReturnType() == null;
        Check.due("rule 12: " + place(tree) + ": objects are made in constructors alone", constructing ? 1 : 0, 1);
        return super.visitNewClass(tree, none);
    }

    private void noteCall(Element called, Tree tree) {
        boolean own = outermost(called).equals("MarbleFloor");
        String name = nameOf(called);
        Check.due(place(tree) + ": rule 4: the library's " + name, own || LIBRARY.contains(name) ? 1 : 0, 1);
        TreePath around = getCurrentPath();
        while (around != null && !(around.getLeaf() instanceof MethodTree)) {
            around = around.getParentPath();
        }
        if (own && around != null) {
            calls.computeIfAbsent(nameOf(trees.getElement(around)), n -> new TreeSet<>()).add(name);
        }
    }

    private static String outermost(Element element) {
        Element at = element;
        while (at.getEnclosingElement() instanceof TypeElement || at instanceof ExecutableElement) {
            at = at.getEnclosingElement();
        }
        return at.getSimpleName().toString();
    }

    private static String nameOf(Element method) {
        return method.getEnclosingElement() + "." + method.getSimpleName();
    }

    @Override
    public Void visitWhileLoop(WhileLoopTree tree, Void none) {
        String told = tree.getCondition().toString();
        Check.due("rule 9: " + place(tree) + ": a bound in " + told, told.contains(" < ") || told.contains(" > ") ? 1 : 0, 1);
        return super.visitWhileLoop(tree, none);
    }

    @Override
    public Void visitBinary(BinaryTree tree, Void none) {
        noTexts(trees.getTypeMirror(getCurrentPath()).toString(), tree);
        return super.visitBinary(tree, none);
    }

    @Override
    public Void visitCompoundAssignment(CompoundAssignmentTree tree, Void none) {
        noTexts(trees.getTypeMirror(getCurrentPath()).toString(), tree);
        return super.visitCompoundAssignment(tree, none);
    }

    private void noTexts(String type, Tree tree) {
        Check.due("rule 10: " + place(tree) + ": texts are joined by +", type.equals("java.lang.String") ? 1 : 0, 0);
    }

    @Override
    public Void visitTypeCast(TypeCastTree tree, Void none) {
        Check.dueText("rule 6: " + place(tree) + ": a cast among numbers", tree.getType().toString(), "int");
        return super.visitTypeCast(tree, none);
    }

    @Override
    public Void visitLambdaExpression(LambdaExpressionTree tree, Void none) {
        barred("rule 2", tree);
        return null;
    }

    @Override
    public Void visitMemberReference(MemberReferenceTree tree, Void none) {
        barred("rule 2", tree);
        return null;
    }

    @Override
    public Void visitThrow(ThrowTree tree, Void none) {
        barred("rule 6", tree);
        return null;
    }

    @Override
    public Void visitTry(TryTree tree, Void none) {
        barred("rule 6", tree);
        return null;
    }

    @Override
    public Void visitCatch(CatchTree tree, Void none) {
        barred("rule 6", tree);
        return null;
    }

    @Override
    public Void visitSynchronized(SynchronizedTree tree, Void none) {
        barred("rule 6", tree);
        return null;
    }

    @Override
    public Void visitAssert(AssertTree tree, Void none) {
        barred("rule 6", tree);
        return null;
    }
}
