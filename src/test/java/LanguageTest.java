import com.sun.source.tree.AssertTree;
import com.sun.source.tree.ClassTree;
import com.sun.source.tree.CompilationUnitTree;
import com.sun.source.tree.DoWhileLoopTree;
import com.sun.source.tree.ExpressionTree;
import com.sun.source.tree.ForLoopTree;
import com.sun.source.tree.LambdaExpressionTree;
import com.sun.source.tree.MemberReferenceTree;
import com.sun.source.tree.MemberSelectTree;
import com.sun.source.tree.MethodInvocationTree;
import com.sun.source.tree.MethodTree;
import com.sun.source.tree.NewClassTree;
import com.sun.source.tree.SynchronizedTree;
import com.sun.source.tree.ThrowTree;
import com.sun.source.tree.Tree;
import com.sun.source.tree.TryTree;
import com.sun.source.tree.VariableTree;
import com.sun.source.tree.WhileLoopTree;
import com.sun.source.util.JavacTask;
import com.sun.source.util.TreePathScanner;
import com.sun.source.util.Trees;
import java.io.IOException;
import java.nio.file.Path;
import java.util.Arrays;
import java.util.HashSet;
import java.util.LinkedHashMap;
import java.util.LinkedHashSet;
import java.util.List;
import java.util.Map;
import java.util.Set;
import javax.lang.model.element.Element;
import javax.lang.model.element.ElementKind;
import javax.lang.model.element.ExecutableElement;
import javax.lang.model.element.Modifier;
import javax.lang.model.element.VariableElement;
import javax.tools.JavaCompiler;
import javax.tools.StandardJavaFileManager;
import javax.tools.ToolProvider;

/**
 * The rules of ../shared/LANGUAGE.md that can be counted or looked up in the class's source. It is stricter than they
 * are where the class does with less (no try, no while, no recursion, static fields that are constants).
 */
public final class LanguageTest extends TreePathScanner<Void, Void> {
    private static final String SOURCE = "src/main/java/RankCalc.java";
    /** What rule 4 allows of the library, as far as the class could need it. */
    private static final Set<String> LIBRARY = new HashSet<>(Arrays.asList(
            "String.length", "String.charAt", "String.isEmpty", "String.indexOf", "Math.min", "Math.max", "Math.abs",
            "Math.floorMod", "Math.floorDiv", "System.arraycopy", "Arrays.fill"));
    private static final Set<String> EXCEPTIONS = new HashSet<>(Arrays.asList(
            "IllegalStateException", "IllegalArgumentException", "IndexOutOfBoundsException", "ArithmeticException",
            "UnsupportedOperationException", "NoSuchElementException"));

    private final Check check = new Check();
    private final Map<Element, Set<Element>> calls = new LinkedHashMap<>();
    private final Trees trees;
    private final CompilationUnitTree unit;
    private ExecutableElement method;
    private int classes;

    private LanguageTest(Trees trees, CompilationUnitTree unit) {
        this.trees = trees;
        this.unit = unit;
    }

    public static void main(String[] args) throws IOException {
        JavaCompiler compiler = ToolProvider.getSystemJavaCompiler();
        try (StandardJavaFileManager files = compiler.getStandardFileManager(null, null, null)) {
            JavacTask task = (JavacTask) compiler.getTask(null, files, null, List.of("-proc:none"), null,
                    files.getJavaFileObjects(Path.of(SOURCE)));
            CompilationUnitTree unit = task.parse().iterator().next();
            task.analyze();
            new LanguageTest(Trees.instance(task), unit).ask();
        }
    }

    private void ask() {
        check.same("rule 1: classes in the file", unit.getTypeDecls().size(), 1);
        check.same("rule 1: a package line", unit.getPackageName() == null, true);
        scan(unit, null);
        check.same("rule 11: at most twelve classes, not " + classes, classes <= 12, true);
        for (Element start : calls.keySet()) {
            int deep = depth(start, new LinkedHashSet<>());
            check.same("rule 11: calls from " + start + " go " + deep + " deep", deep <= 8, true);
        }
        check.end();
    }

    private int depth(Element from, Set<Element> open) {
        boolean again = !open.add(from);
        check.same("rule 8: " + from + " within " + open, again, false);
        int deepest = 0;
        if (!again) {
            for (Element next : calls.getOrDefault(from, Set.of())) {
                deepest = Math.max(deepest, depth(next, open));
            }
            open.remove(from);
        }
        return deepest + 1;
    }

    private Element elementHere() {
        return trees.getElement(getCurrentPath());
    }

    private void refuse(String rule, Tree tree) {
        long line = unit.getLineMap().getLineNumber(startOf(tree));
        check.same(rule + ", line " + line + ": " + tree, "refused", "fine");
    }

    private long startOf(Tree tree) {
        return trees.getSourcePositions().getStartPosition(unit, tree);
    }

    @Override
    public Void visitClass(ClassTree tree, Void none) {
        classes++;
        Element element = elementHere();
        boolean outermost = element.getEnclosingElement().getKind() == ElementKind.PACKAGE;
        if (!outermost && !element.getModifiers().contains(Modifier.STATIC)) {
            refuse("rule 1: static classes", tree);
        }
        int fields = 0;
        Set<String> faceNames = new HashSet<>();
        for (Element member : element.getEnclosedElements()) {
            fields += member.getKind() == ElementKind.FIELD && !member.getModifiers().contains(Modifier.STATIC) ? 1 : 0;
            if (member.getKind() == ElementKind.METHOD && outermost) {
                check.same("rule 1: the name " + member.getSimpleName() + " once",
                        faceNames.add(member.getSimpleName().toString()), true);
            }
        }
        check.same("rule 11: at most twenty fields in " + element + ", not " + fields, fields <= 20, true);
        return super.visitClass(tree, none);
    }

    @Override
    public Void visitVariable(VariableTree tree, Void none) {
        VariableElement element = (VariableElement) elementHere();
        if (element.getModifiers().contains(Modifier.STATIC)) {
            check.same("rule 5: " + element + " is a constant", element.getConstantValue() != null, true);
        }
        return super.visitVariable(tree, none);
    }

    @Override
    public Void visitMethod(MethodTree tree, Void none) {
        ExecutableElement outside = method;
        method = (ExecutableElement) elementHere();
        calls.computeIfAbsent(method, m -> new LinkedHashSet<>());
        check.same("rule 11: parameters of " + method, tree.getParameters().size() <= 7, true);
        long end = trees.getSourcePositions().getEndPosition(unit, tree);
        if (end >= 0) {
            long lines = unit.getLineMap().getLineNumber(end) - unit.getLineMap().getLineNumber(startOf(tree)) + 1;
            check.same("rule 11: " + method + " has " + lines + " lines", lines <= 60, true);
        }
        super.visitMethod(tree, none);
        method = outside;
        return null;
    }

    @Override
    public Void visitMethodInvocation(MethodInvocationTree tree, Void none) {
        Element called = elementHere();
        Element owner = called.getEnclosingElement();
        boolean own = trees.getTree(called) != null;
        if (own && method != null) {
            calls.get(method).add(called);
        } else if (!own && called.getKind() == ElementKind.METHOD) {
            String name = owner.getSimpleName() + "." + called.getSimpleName();
            check.same("rule 4: " + name + " is listed", LIBRARY.contains(name), true);
        }
        return super.visitMethodInvocation(tree, none);
    }

    @Override
    public Void visitMemberSelect(MemberSelectTree tree, Void none) {
        Element element = elementHere();
        boolean field = element != null && element.getKind() == ElementKind.FIELD;
        if (field && trees.getTree(element) == null && !tree.getIdentifier().contentEquals("length")) {
            refuse("rule 4: a constant of the library", tree);
        }
        return super.visitMemberSelect(tree, none);
    }

    @Override
    public Void visitNewClass(NewClassTree tree, Void none) {
        if (tree.getClassBody() != null) {
            refuse("rule 2: a class without a name", tree);
        }
        Element called = elementHere();
        if (trees.getTree(called.getEnclosingElement()) == null
                && !EXCEPTIONS.contains(called.getEnclosingElement().getSimpleName().toString())) {
            refuse("rule 4: an object of the library", tree);
        }
        if (trees.getTree(called) != null && method != null) {
            calls.get(method).add(called);
        }
        return super.visitNewClass(tree, none);
    }

    @Override
    public Void visitThrow(ThrowTree tree, Void none) {
        ExpressionTree thrown = tree.getExpression();
        if (!(thrown instanceof NewClassTree made) || !EXCEPTIONS.contains(made.getIdentifier().toString())) {
            refuse("rule 6: throw new E()", tree);
        }
        if (method == null || method.getKind() == ElementKind.CONSTRUCTOR) {
            refuse("rule 6: no throw in a constructor", tree);
        }
        return super.visitThrow(tree, none);
    }

    @Override
    public Void visitForLoop(ForLoopTree tree, Void none) {
        if (tree.getCondition() == null || tree.getUpdate().isEmpty()) {
            refuse("rule 9: a counter against a bound", tree);
        }
        return super.visitForLoop(tree, none);
    }

    @Override
    public Void visitWhileLoop(WhileLoopTree tree, Void none) {
        refuse("rule 9: a counter against a bound", tree);
        return super.visitWhileLoop(tree, none);
    }

    @Override
    public Void visitDoWhileLoop(DoWhileLoopTree tree, Void none) {
        refuse("rule 9: a counter against a bound", tree);
        return super.visitDoWhileLoop(tree, none);
    }

    @Override
    public Void visitTry(TryTree tree, Void none) {
        refuse("rule 6: no try is needed", tree);
        return super.visitTry(tree, none);
    }

    @Override
    public Void visitSynchronized(SynchronizedTree tree, Void none) {
        refuse("rule 6: no synchronized", tree);
        return super.visitSynchronized(tree, none);
    }

    @Override
    public Void visitAssert(AssertTree tree, Void none) {
        refuse("rule 6: no assert", tree);
        return super.visitAssert(tree, none);
    }

    @Override
    public Void visitLambdaExpression(LambdaExpressionTree tree, Void none) {
        refuse("rule 2: no lambda", tree);
        return super.visitLambdaExpression(tree, none);
    }

    @Override
    public Void visitMemberReference(MemberReferenceTree tree, Void none) {
        refuse("rule 2: no method reference", tree);
        return super.visitMemberReference(tree, none);
    }
}
