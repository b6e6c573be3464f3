import com.sun.source.tree.AssertTree;
import com.sun.source.tree.BinaryTree;
import com.sun.source.tree.ClassTree;
import com.sun.source.tree.CompilationUnitTree;
import com.sun.source.tree.ImportTree;
import com.sun.source.tree.LambdaExpressionTree;
import com.sun.source.tree.MemberReferenceTree;
import com.sun.source.tree.MethodInvocationTree;
import com.sun.source.tree.MethodTree;
import com.sun.source.tree.NewArrayTree;
import com.sun.source.tree.NewClassTree;
import com.sun.source.tree.SynchronizedTree;
import com.sun.source.tree.ThrowTree;
import com.sun.source.tree.Tree;
import com.sun.source.tree.TryTree;
import com.sun.source.tree.TypeCastTree;
import com.sun.source.tree.VariableTree;
import com.sun.source.tree.WhileLoopTree;
import com.sun.source.util.JavacTask;
import com.sun.source.util.TreePath;
import com.sun.source.util.TreePathScanner;
import com.sun.source.util.Trees;
import java.nio.file.Path;
import java.util.ArrayList;
import java.util.HashMap;
import java.util.HashSet;
import java.util.List;
import java.util.Map;
import java.util.Set;
import java.util.TreeSet;
import javax.lang.model.element.Element;
import javax.lang.model.element.Modifier;
import javax.lang.model.type.TypeKind;
import javax.lang.model.type.TypeMirror;
import javax.tools.JavaCompiler;
import javax.tools.StandardJavaFileManager;
import javax.tools.ToolProvider;

/** The class keeps to the rules of LANGUAGE.md, as far as its text shows them; what is wrong is told with the rule's number. */
public final class LanguageTest extends TreePathScanner<Void, Void> {
    private static final Set<String> EXCEPTIONS = Set.of("IllegalStateException", "IllegalArgumentException",
            "IndexOutOfBoundsException", "ArithmeticException", "UnsupportedOperationException",
            "NoSuchElementException", "RuntimeException");
    private static final Set<String> LIBRARY = Set.of("java.lang.String.length", "java.lang.String.charAt",
            "java.lang.Math.max", "java.lang.Math.min", "java.lang.Math.abs", "java.lang.Integer.bitCount",
            "java.lang.Long.bitCount", "java.lang.System.arraycopy");
    private static final int MOST_CLASSES = 12;
    private static final int MOST_FIELDS = 20;
    private static final int MOST_LINES = 60;
    private static final int MOST_PARAMETERS = 7;
    private static final int DEEPEST_CALLS = 8;

    private final Trees trees;
    private final CompilationUnitTree unit;
    private final Map<Element, Set<Element>> calls = new HashMap<>();
    private int classes = 0;
    private int wrong = 0;

    private LanguageTest(Trees trees, CompilationUnitTree unit) {
        this.trees = trees;
        this.unit = unit;
    }

    private void need(boolean holds, int rule, Tree where, String what) {
        if (!holds) {
            wrong++;
            System.out.println("rule " + rule + ", line " + line(startOf(where)) + ": " + what);
        }
    }

    private long startOf(Tree tree) {
        return trees.getSourcePositions().getStartPosition(unit, tree);
    }

    private long line(long position) {
        return position < 0 ? 0 : unit.getLineMap().getLineNumber(position);
    }

    private boolean isOwn(Element e) {
        return e != null && e.getEnclosingElement() != null && e.getEnclosingElement().toString().startsWith("HorizonSeam");
    }

    private MethodTree methodAround() {
        for (TreePath at = getCurrentPath(); at != null; at = at.getParentPath()) {
            if (at.getLeaf() instanceof MethodTree m) {
                return m;
            }
        }
        return null;
    }

    private boolean isInLoop() {
        for (TreePath at = getCurrentPath(); at != null; at = at.getParentPath()) {
            switch (at.getLeaf().getKind()) {
                case FOR_LOOP, ENHANCED_FOR_LOOP, WHILE_LOOP, DO_WHILE_LOOP:
                    return true;
                default:
                    break;
            }
        }
        return false;
    }

    // ---- one look at each kind of tree

    @Override
    public Void visitImport(ImportTree t, Void v) {
        need(Set.of("java.util.NoSuchElementException", "java.util.ArrayList", "java.util.List", "java.util.Arrays",
                "java.util.Iterator").contains(t.getQualifiedIdentifier().toString()), 4, t, "it imports " + t);
        return super.visitImport(t, v);
    }

    @Override
    public Void visitClass(ClassTree t, Void v) {
        classes++;
        Set<Modifier> is = t.getModifiers().getFlags();
        Tree around = getCurrentPath().getParentPath().getLeaf();
        boolean isStatic = t.getKind() == Tree.Kind.ENUM || t.getKind() == Tree.Kind.RECORD || is.contains(Modifier.STATIC);
        need(around == unit || around instanceof ClassTree && isStatic, 1, t, t.getSimpleName() + " is not static");
        int fields = 0;
        for (Tree member : t.getMembers()) {
            if (member instanceof VariableTree f) {
                Set<Modifier> of = f.getModifiers().getFlags();
                need(!of.contains(Modifier.STATIC) || of.contains(Modifier.FINAL), 5, f, f.getName() + " is not final");
                fields += of.contains(Modifier.STATIC) ? 0 : 1;
            }
            need(member.getKind() != Tree.Kind.BLOCK, 5, member, "a block of its own");
        }
        need(fields <= MOST_FIELDS, 11, t, t.getSimpleName() + " has " + fields + " fields");
        return super.visitClass(t, v);
    }

    @Override
    public Void visitMethod(MethodTree t, Void v) {
        long lines = line(trees.getSourcePositions().getEndPosition(unit, t)) - line(startOf(t)) + 1;
        need(lines <= MOST_LINES, 11, t, t.getName() + " has " + lines + " lines");
        need(t.getParameters().size() <= MOST_PARAMETERS, 11, t, t.getName() + " has too many parameters");
        need(!Set.of("equals", "hashCode", "toString").contains(t.getName().toString()), 6, t, "its own " + t.getName());
        calls.computeIfAbsent(trees.getElement(getCurrentPath()), e -> new HashSet<>());
        return super.visitMethod(t, v);
    }

    @Override
    public Void visitMethodInvocation(MethodInvocationTree t, Void v) {
        Element called = trees.getElement(getCurrentPath());
        String name = called == null ? "" : called.getEnclosingElement() + "." + called.getSimpleName();
        need(isOwn(called) || LIBRARY.contains(name) || name.endsWith(".<init>"), 4, t, "it calls " + name);
        MethodTree from = methodAround();
        if (from != null && isOwn(called)) {
            calls.computeIfAbsent(trees.getElement(trees.getPath(unit, from)), e -> new HashSet<>()).add(called);
        }
        return super.visitMethodInvocation(t, v);
    }

    @Override
    public Void visitThrow(ThrowTree t, Void v) {
        boolean fine = t.getExpression() instanceof NewClassTree made
                && EXCEPTIONS.contains(made.getIdentifier().toString())
                && made.getArguments().stream().allMatch(a -> a.getKind() == Tree.Kind.STRING_LITERAL);
        need(fine, 6, t, "it throws " + t.getExpression());
        need(methodAround() != null && methodAround().getReturnType() != null, 6, t, "a constructor throws");
        return super.visitThrow(t, v);
    }

    @Override
    public Void visitBinary(BinaryTree t, Void v) {
        TypeMirror type = trees.getTypeMirror(getCurrentPath());
        need(type == null || type.getKind().isPrimitive(), 10, t, "texts joined by +");
        return super.visitBinary(t, v);
    }

    @Override
    public Void visitVariable(VariableTree t, Void v) {
        TypeMirror type = trees.getTypeMirror(getCurrentPath());
        need(type == null || type.getKind() != TypeKind.DOUBLE && type.getKind() != TypeKind.FLOAT, 3, t, "no whole number");
        return super.visitVariable(t, v);
    }

    @Override
    public Void visitNewClass(NewClassTree t, Void v) {
        need(t.getClassBody() == null, 2, t, "an anonymous class");
        need(!isInLoop(), 12, t, "an object made in a loop");
        return super.visitNewClass(t, v);
    }

    @Override
    public Void visitNewArray(NewArrayTree t, Void v) {
        need(!isInLoop(), 12, t, "a row made in a loop");
        MethodTree around = methodAround();
        need(around == null || around.getReturnType() == null, 12, t, "a row made by a call");
        return super.visitNewArray(t, v);
    }

    @Override
    public Void visitTypeCast(TypeCastTree t, Void v) {
        need(t.getType().getKind() == Tree.Kind.PRIMITIVE_TYPE, 6, t, "a cast without a test");
        return super.visitTypeCast(t, v);
    }

    @Override
    public Void visitTry(TryTree t, Void v) {
        need(false, 6, t, "it catches, though nothing in it throws");
        return super.visitTry(t, v);
    }

    @Override
    public Void visitWhileLoop(WhileLoopTree t, Void v) {
        need(false, 9, t, "a loop without a counter");
        return super.visitWhileLoop(t, v);
    }

    @Override
    public Void visitLambdaExpression(LambdaExpressionTree t, Void v) {
        need(false, 2, t, "a lambda");
        return super.visitLambdaExpression(t, v);
    }

    @Override
    public Void visitMemberReference(MemberReferenceTree t, Void v) {
        need(false, 2, t, "a method reference");
        return super.visitMemberReference(t, v);
    }

    @Override
    public Void visitSynchronized(SynchronizedTree t, Void v) {
        need(false, 6, t, "synchronized");
        return super.visitSynchronized(t, v);
    }

    @Override
    public Void visitAssert(AssertTree t, Void v) {
        need(false, 6, t, "assert");
        return super.visitAssert(t, v);
    }

    // ---- how deep calls go

    private Set<Element> reachedFrom(Element from) {
        Set<Element> reached = new HashSet<>();
        List<Element> waiting = new ArrayList<>(calls.getOrDefault(from, Set.of()));
        while (!waiting.isEmpty()) {
            Element one = waiting.remove(waiting.size() - 1);
            if (reached.add(one)) {
                waiting.addAll(calls.getOrDefault(one, Set.of()));
            }
        }
        return reached;
    }

    /** Methods that call one another count once. */
    private int depthOf(Element method, Map<Element, Set<Element>> reached, Map<Element, Integer> known) {
        if (known.containsKey(method)) {
            return known.get(method);
        }
        Set<Element> together = new HashSet<>(Set.of(method));
        for (Element other : reached.getOrDefault(method, Set.of())) {
            if (reached.getOrDefault(other, Set.of()).contains(method)) {
                together.add(other);
            }
        }
        int deepest = 0;
        for (Element one : together) {
            for (Element next : calls.getOrDefault(one, Set.of())) {
                if (!together.contains(next)) {
                    deepest = Math.max(deepest, depthOf(next, reached, known));
                }
            }
        }
        known.put(method, deepest + 1);
        return deepest + 1;
    }

    private void lookAtDepths() {
        Map<Element, Set<Element>> reached = new HashMap<>();
        for (Element method : calls.keySet()) {
            reached.put(method, reachedFrom(method));
        }
        Map<Element, Integer> known = new HashMap<>();
        Set<String> circles = new TreeSet<>();
        for (Element method : calls.keySet()) {
            int depth = depthOf(method, reached, known);
            need(depth <= DEEPEST_CALLS, 11, unit, method + " goes " + depth + " calls deep");
            if (reached.get(method).contains(method)) {
                circles.add(method.getSimpleName().toString());
            }
        }
        need(circles.equals(new TreeSet<>(Set.of("readExpr", "readRank", "readPart"))), 8, unit,
                "other methods than those of rules call themselves: " + circles);
    }

    public static void main(String[] args) throws Exception {
        JavaCompiler compiler = ToolProvider.getSystemJavaCompiler();
        try (StandardJavaFileManager files = compiler.getStandardFileManager(null, null, null)) {
            var sources = files.getJavaFileObjects(Path.of("src/main/java/HorizonSeam.java"));
            JavacTask task = (JavacTask) compiler.getTask(null, files, null, List.of("-proc:none"), null, sources);
            CompilationUnitTree unit = task.parse().iterator().next();
            task.analyze();
            LanguageTest test = new LanguageTest(Trees.instance(task), unit);
            test.scan(unit, null);
            test.lookAtDepths();
            test.need(unit.getPackageName() == null && unit.getTypeDecls().size() == 1, 1, unit, "more than one class");
            test.need(test.classes <= MOST_CLASSES, 11, unit, test.classes + " classes");
            System.out.println(test.wrong == 0 ? "the class keeps to its language" : test.wrong + " rules are broken");
            if (test.wrong != 0) {
                System.exit(1);
            }
        }
    }
}
