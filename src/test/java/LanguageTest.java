import com.sun.source.tree.AssertTree;
import com.sun.source.tree.BinaryTree;
import com.sun.source.tree.BlockTree;
import com.sun.source.tree.ClassTree;
import com.sun.source.tree.CompilationUnitTree;
import com.sun.source.tree.CompoundAssignmentTree;
import com.sun.source.tree.ImportTree;
import com.sun.source.tree.InstanceOfTree;
import com.sun.source.tree.LambdaExpressionTree;
import com.sun.source.tree.MemberReferenceTree;
import com.sun.source.tree.MethodInvocationTree;
import com.sun.source.tree.MethodTree;
import com.sun.source.tree.NewClassTree;
import com.sun.source.tree.SynchronizedTree;
import com.sun.source.tree.ThrowTree;
import com.sun.source.tree.Tree;
import com.sun.source.tree.TryTree;
import com.sun.source.tree.VariableTree;
import com.sun.source.tree.WhileLoopTree;
import com.sun.source.util.JavacTask;
import com.sun.source.util.TreePathScanner;
import com.sun.source.util.Trees;
import java.io.File;
import java.io.IOException;
import java.util.HashMap;
import java.util.HashSet;
import java.util.List;
import java.util.Map;
import java.util.Set;
import javax.lang.model.element.Element;
import javax.lang.model.element.ExecutableElement;
import javax.lang.model.element.Modifier;
import javax.lang.model.element.TypeElement;
import javax.tools.JavaCompiler;
import javax.tools.StandardJavaFileManager;
import javax.tools.ToolProvider;

/** The rules of LANGUAGE.md that can be read off the source: what it may not use, and how large things get. */
public final class LanguageTest extends TreePathScanner<Void, Void> {
    private static final Set<String> LIBRARY = Set.of("java.util.Arrays.fill", "java.lang.System.arraycopy",
            "java.lang.Math.max", "java.lang.Math.min", "java.lang.Math.abs", "java.lang.Math.floorMod",
            "java.lang.Integer.bitCount", "java.lang.Object.<init>");
    private static final Set<String> EXCEPTIONS = Set.of("IllegalStateException", "IllegalArgumentException",
            "IndexOutOfBoundsException", "ArithmeticException", "UnsupportedOperationException",
            "NoSuchElementException", "RuntimeException");

    private final Trees trees;
    private final CompilationUnitTree unit;
    private final Map<Element, Set<Element>> calls = new HashMap<>();
    private Element method;
    private int classes;

    private LanguageTest(Trees trees, CompilationUnitTree unit) {
        this.trees = trees;
        this.unit = unit;
    }

    private long line(long position) {
        return unit.getLineMap().getLineNumber(position);
    }

    private void never(String what, Tree tree) {
        long at = line(trees.getSourcePositions().getStartPosition(unit, tree));
        Check.due("line " + at + ": " + what, "never", () -> "there");
    }

    private void atMost(String what, int most, int got) {
        Check.due(what + ": " + got + " of at most " + most, true, () -> got <= most);
    }

    @Override
    public Void visitImport(ImportTree tree, Void none) {
        Set<String> known = Set.of("java.util.Arrays", "java.util.NoSuchElementException");
        if (!known.contains(tree.getQualifiedIdentifier().toString())) never("an import", tree);
        return super.visitImport(tree, none);
    }

    @Override
    public Void visitClass(ClassTree tree, Void none) {
        classes++;
        int fields = 0;
        for (Tree member : tree.getMembers()) {
            if (member instanceof BlockTree) never("an initialiser block", member);
            if (member instanceof VariableTree field
                    && !field.getModifiers().getFlags().contains(Modifier.STATIC)) fields++;
        }
        atMost("fields of " + tree.getSimpleName(), 20, fields);
        return super.visitClass(tree, none);
    }

    @Override
    public Void visitMethod(MethodTree tree, Void none) {
        Element outer = method;
        method = trees.getElement(getCurrentPath());
        calls.put(method, new HashSet<>());
        atMost("parameters of " + tree.getName(), 7, tree.getParameters().size());
        long start = trees.getSourcePositions().getStartPosition(unit, tree);
        if (start >= 0) {
            long lines = line(trees.getSourcePositions().getEndPosition(unit, tree)) - line(start) + 1;
            atMost("lines of " + tree.getName(), 60, (int) lines);
        }
        super.visitMethod(tree, none);
        method = outer;
        return none;
    }

    private void called(Element element, Tree tree) {
        if (!(element instanceof ExecutableElement) || method == null) return;
        TypeElement owner = (TypeElement) element.getEnclosingElement();
        String name = owner.getQualifiedName() + "." + element.getSimpleName();
        if (name.startsWith("TheatreBoxOffice")) {
            calls.get(method).add(element);
        } else if (!LIBRARY.contains(name) && !EXCEPTIONS.contains(owner.getSimpleName().toString())) {
            never(name, tree);
        }
    }

    @Override
    public Void visitMethodInvocation(MethodInvocationTree tree, Void none) {
        called(trees.getElement(getCurrentPath()), tree);
        return super.visitMethodInvocation(tree, none);
    }

    @Override
    public Void visitNewClass(NewClassTree tree, Void none) {
        called(trees.getElement(getCurrentPath()), tree);
        if (tree.getClassBody() != null) never("an anonymous class", tree);
        return super.visitNewClass(tree, none);
    }

    @Override
    public Void visitThrow(ThrowTree tree, Void none) {
        boolean plain = tree.getExpression() instanceof NewClassTree made
                && EXCEPTIONS.contains(made.getIdentifier().toString());
        if (!plain) never("a throw of something else", tree);
        if (method.getSimpleName().contentEquals("<init>")) never("a throw in a constructor", tree);
        return super.visitThrow(tree, none);
    }

    @Override
    public Void visitBinary(BinaryTree tree, Void none) {
        if (tree.getKind() == Tree.Kind.PLUS) {
            String type = String.valueOf(trees.getTypeMirror(getCurrentPath()));
            if (type.equals("java.lang.String")) never("texts joined by +", tree);
        }
        return super.visitBinary(tree, none);
    }

    @Override
    public Void visitCompoundAssignment(CompoundAssignmentTree tree, Void none) {
        String type = String.valueOf(trees.getTypeMirror(getCurrentPath()));
        if (type.equals("java.lang.String")) never("texts joined by +=", tree);
        return super.visitCompoundAssignment(tree, none);
    }

    @Override
    public Void visitTry(TryTree tree, Void none) {
        never("try", tree);
        return none;
    }

    @Override
    public Void visitLambdaExpression(LambdaExpressionTree tree, Void none) {
        never("a lambda", tree);
        return none;
    }

    @Override
    public Void visitMemberReference(MemberReferenceTree tree, Void none) {
        never("a method reference", tree);
        return none;
    }

    @Override
    public Void visitSynchronized(SynchronizedTree tree, Void none) {
        never("synchronized", tree);
        return none;
    }

    @Override
    public Void visitAssert(AssertTree tree, Void none) {
        never("assert", tree);
        return none;
    }

    @Override
    public Void visitWhileLoop(WhileLoopTree tree, Void none) {
        never("a loop without a counter", tree);
        return none;
    }

    @Override
    public Void visitInstanceOf(InstanceOfTree tree, Void none) {
        never("instanceof", tree);
        return none;
    }

    /** How many calls stand open at once, from this one on; a recursion counts as far too many. */
    private int depth(Element from, Set<Element> open) {
        if (!open.add(from)) return 1000;
        int most = 0;
        for (Element next : calls.getOrDefault(from, Set.of())) {
            most = Math.max(most, depth(next, open));
        }
        open.remove(from);
        return most + 1;
    }

    public static void main(String[] args) throws IOException {
        JavaCompiler compiler = ToolProvider.getSystemJavaCompiler();
        StandardJavaFileManager files = compiler.getStandardFileManager(null, null, null);
        JavacTask task = (JavacTask) compiler.getTask(null, files, null, List.of("-proc:none"), null,
                files.getJavaFileObjects(new File("src/main/java/TheatreBoxOffice.java")));
        CompilationUnitTree unit = task.parse().iterator().next();
        task.analyze();
        LanguageTest test = new LanguageTest(Trees.instance(task), unit);
        test.scan(unit, null);
        test.atMost("classes", 12, test.classes);
        for (Element from : test.calls.keySet()) {
            test.atMost("calls open in " + from, 8, test.depth(from, new HashSet<>()));
        }
        Check.end("LanguageTest");
    }
}
