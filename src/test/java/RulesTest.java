import com.sun.source.tree.AssertTree;
import com.sun.source.tree.BinaryTree;
import com.sun.source.tree.BlockTree;
import com.sun.source.tree.ClassTree;
import com.sun.source.tree.CompilationUnitTree;
import com.sun.source.tree.CompoundAssignmentTree;
import com.sun.source.tree.DoWhileLoopTree;
import com.sun.source.tree.EnhancedForLoopTree;
import com.sun.source.tree.ExpressionTree;
import com.sun.source.tree.ForLoopTree;
import com.sun.source.tree.LambdaExpressionTree;
import com.sun.source.tree.LiteralTree;
import com.sun.source.tree.MemberReferenceTree;
import com.sun.source.tree.MethodInvocationTree;
import com.sun.source.tree.MethodTree;
import com.sun.source.tree.NewArrayTree;
import com.sun.source.tree.NewClassTree;
import com.sun.source.tree.ParenthesizedTree;
import com.sun.source.tree.SynchronizedTree;
import com.sun.source.tree.ThrowTree;
import com.sun.source.tree.Tree;
import com.sun.source.tree.TryTree;
import com.sun.source.tree.VariableTree;
import com.sun.source.tree.WhileLoopTree;
import com.sun.source.util.JavacTask;
import com.sun.source.util.TreePath;
import com.sun.source.util.TreePathScanner;
import com.sun.source.util.Trees;
import java.io.IOException;
import java.nio.file.Path;
import java.util.ArrayList;
import java.util.HashMap;
import java.util.HashSet;
import java.util.List;
import java.util.Map;
import java.util.Set;
import javax.lang.model.element.Element;
import javax.lang.model.element.ElementKind;
import javax.lang.model.element.Modifier;
import javax.tools.JavaCompiler;
import javax.tools.StandardJavaFileManager;
import javax.tools.ToolProvider;

/**
 * The rules of ../shared/LANGUAGE.md, as far as they can be seen in the tree that the compiler makes
 * of the source. Some are held more narrowly than they are written, as the class needs no more: it
 * uses no lists and no texts, and no call of its face makes an object.
 */
public final class RulesTest extends TreePathScanner<Void, Void> {
    private static final Path SOURCE = Path.of("src/main/java/BitShuffler.java");
    private static final Set<String> LIBRARY = Set.of(
            "java.lang.Integer.bitCount", "java.lang.Long.bitCount", "java.lang.System.arraycopy");
    private static final Set<String> EXCEPTIONS = Set.of("IllegalStateException", "IllegalArgumentException",
            "IndexOutOfBoundsException", "ArithmeticException", "UnsupportedOperationException",
            "NoSuchElementException", "RuntimeException");
    private static final Set<String> CONSTANT_TYPES = Set.of("int", "long", "boolean", "char", "String",
            "int[]", "long[]", "char[]", "byte[]");
    private static final Set<String> PLAIN_TYPES = Set.of("int", "long", "boolean", "int[]", "long[]");
    /** The methods that may call themselves, as their depth is an argument and is looked at. */
    private static final Set<String> RECURSIVE = Set.of("BitShuffler.canArrange");
    private static final int MOST_LINES = 60;
    private static final int MOST_PARAMETERS = 7;
    private static final int DEEPEST_CALLS = 8;
    private static final int MOST_CLASSES = 12;
    private static final int MOST_FIELDS = 20;

    private final Trees trees;
    private final CompilationUnitTree unit;
    private final Set<String> ownClasses = new HashSet<>();
    private final Set<String> publicMethods = new HashSet<>();
    private final Set<String> privateMethods = new HashSet<>();
    private final Map<String, Set<String>> calls = new HashMap<>();

    private RulesTest(Trees trees, CompilationUnitTree unit) {
        this.trees = trees;
        this.unit = unit;
    }

    public static void main(String[] args) throws IOException {
        JavaCompiler compiler = ToolProvider.getSystemJavaCompiler();
        try (StandardJavaFileManager files = compiler.getStandardFileManager(null, null, null)) {
            JavacTask task = (JavacTask) compiler.getTask(null, files, null, List.of("--release", "17", "-proc:none"),
                    null, files.getJavaFileObjects(SOURCE));
            CompilationUnitTree unit = task.parse().iterator().next();
            task.analyze();
            RulesTest test = new RulesTest(Trees.instance(task), unit);
            test.nameClasses(unit.getTypeDecls());
            test.scan(unit, null);
            test.lookAtTheWhole();
        }
        Due.end();
    }

    private void rule(int number, Tree at, String text, boolean holds) {
        long line = unit.getLineMap().getLineNumber(trees.getSourcePositions().getStartPosition(unit, at));
        Due.yes("rule " + number + ", line " + line + ": " + text, holds);
    }

    private void nameClasses(List<? extends Tree> members) {
        for (Tree member : members) {
            if (member instanceof ClassTree c) {
                ownClasses.add(c.getSimpleName().toString());
                nameClasses(c.getMembers());
            }
        }
    }

    private void lookAtTheWhole() {
        Due.yes("the source is one class", unit.getTypeDecls().size() == 1);
        Due.yes("the source has no package line", unit.getPackage() == null);
        Due.yes("rule 4: no imports", unit.getImports().isEmpty());
        Due.yes("rule 11: classes", ownClasses.size() <= MOST_CLASSES);
        for (String name : privateMethods) {
            Due.yes("rule 1: the private method " + name + " bears no public one's name", !publicMethods.contains(name));
        }
        for (String method : calls.keySet()) {
            int depth = depthOf(method, new ArrayList<>());
            Due.yes("rule 11: " + method + " goes " + depth + " deep", depth <= DEEPEST_CALLS);
        }
    }

    /** How many calls stand open at most when a method runs, that of itself counted; recursion is told. */
    private int depthOf(String method, List<String> open) {
        int deepest = 0;
        open.add(method);
        for (String called : calls.getOrDefault(method, Set.of())) {
            if (!open.contains(called)) {
                deepest = Math.max(deepest, depthOf(called, open));
            } else {
                Due.yes("rule 8: " + method + " may call " + called + " again",
                        called.equals(method) && RECURSIVE.contains(called));
            }
        }
        open.remove(open.size() - 1);
        return deepest + 1;
    }

    /** The method or constructor around the place that is looked at, or null. */
    private MethodTree method() {
        for (TreePath path = getCurrentPath(); path != null; path = path.getParentPath()) {
            if (path.getLeaf() instanceof MethodTree m) {
                return m;
            }
        }
        return null;
    }

    private boolean inConstructor() {
        MethodTree m = method();
        return m != null && m.getReturnType() == null;
    }

    private Tree parent() {
        return getCurrentPath().getParentPath().getLeaf();
    }

    @Override
    public Void visitClass(ClassTree c, Void none) {
        Set<Modifier> flags = c.getModifiers().getFlags();
        if (parent() != unit) {
            rule(1, c, "classes inside are private or package-visible and static",
                    flags.contains(Modifier.STATIC) && !flags.contains(Modifier.PUBLIC)
                            && !flags.contains(Modifier.PROTECTED));
            rule(2, c, "no local class", parent() instanceof ClassTree);
        }
        int fields = 0;
        for (Tree member : c.getMembers()) {
            boolean isField = member instanceof VariableTree v && !v.getModifiers().getFlags().contains(Modifier.STATIC);
            fields += isField ? 1 : 0;
            rule(5, member, "no initialiser block", !(member instanceof BlockTree));
        }
        rule(11, c, "fields", fields <= MOST_FIELDS);
        return super.visitClass(c, none);
    }

    @Override
    public Void visitMethod(MethodTree m, Void none) {
        String name = m.getName().toString();
        Set<Modifier> flags = m.getModifiers().getFlags();
        if (flags.contains(Modifier.PUBLIC)) {
            publicMethods.add(name);
        } else if (flags.contains(Modifier.PRIVATE)) {
            privateMethods.add(name);
        }
        rule(6, m, "no equals, hashCode or toString", !Set.of("equals", "hashCode", "toString").contains(name));
        rule(11, m, "parameters", m.getParameters().size() <= MOST_PARAMETERS);
        long first = unit.getLineMap().getLineNumber(trees.getSourcePositions().getStartPosition(unit, m));
        // a constructor that the compiler writes has no end in the source
        long end = trees.getSourcePositions().getEndPosition(unit, m);
        rule(11, m, "lines", end < 0 || unit.getLineMap().getLineNumber(end) - first < MOST_LINES);
        return super.visitMethod(m, none);
    }

    @Override
    public Void visitVariable(VariableTree v, Void none) {
        Set<Modifier> flags = v.getModifiers().getFlags();
        String type = v.getType().toString();
        if (flags.contains(Modifier.STATIC)) {
            rule(5, v, "static fields are final constants",
                    flags.contains(Modifier.FINAL) && CONSTANT_TYPES.contains(type) && v.getInitializer() != null);
        }
        rule(3, v, "the type " + type, PLAIN_TYPES.contains(type) || ownClasses.contains(type.replace("[]", "")));
        return super.visitVariable(v, none);
    }

    @Override
    public Void visitMethodInvocation(MethodInvocationTree call, Void none) {
        Element called = trees.getElement(getCurrentPath());
        String owner = called.getEnclosingElement().toString();
        String name = owner + "." + called.getSimpleName();
        boolean isSuper = called.getKind() == ElementKind.CONSTRUCTOR;
        boolean isOwn = owner.equals("BitShuffler") || owner.startsWith("BitShuffler.");
        rule(4, call, name, isSuper || isOwn || LIBRARY.contains(name));
        if (isOwn) {
            callsOf(method()).add(name);
        }
        return super.visitMethodInvocation(call, none);
    }

    private Set<String> callsOf(MethodTree m) {
        Element caller = trees.getElement(TreePath.getPath(unit, m));
        return calls.computeIfAbsent(caller.getEnclosingElement() + "." + caller.getSimpleName(), k -> new HashSet<>());
    }

    @Override
    public Void visitNewClass(NewClassTree made, Void none) {
        boolean isThrown = parent() instanceof ThrowTree;
        rule(2, made, "no anonymous class", made.getClassBody() == null);
        rule(12, made, "calls make no objects", isThrown || inConstructor());
        rule(4, made, "only own classes", isThrown || ownClasses.contains(made.getIdentifier().toString()));
        return super.visitNewClass(made, none);
    }

    @Override
    public Void visitNewArray(NewArrayTree made, Void none) {
        boolean isConstant = parent() instanceof VariableTree v && v.getModifiers().getFlags().contains(Modifier.STATIC);
        rule(12, made, "calls make no rows", isConstant || inConstructor());
        rule(3, made, "rows of one dimension", made.getDimensions().size() <= 1);
        return super.visitNewArray(made, none);
    }

    @Override
    public Void visitThrow(ThrowTree thrown, Void none) {
        boolean isWritten = thrown.getExpression() instanceof NewClassTree made
                && EXCEPTIONS.contains(made.getIdentifier().toString())
                && made.getArguments().stream().allMatch(a -> a.getKind() == Tree.Kind.STRING_LITERAL);
        rule(6, thrown, "throw new E() or throw new E(\"a written text\")", isWritten);
        rule(6, thrown, "no throw in a constructor", !inConstructor());
        return super.visitThrow(thrown, none);
    }

    private void end(Tree loop, ExpressionTree condition) {
        ExpressionTree bare = condition;
        while (bare instanceof ParenthesizedTree p) {
            bare = p.getExpression();
        }
        rule(9, loop, "a loop has an end", bare != null && !(bare instanceof LiteralTree));
    }

    @Override
    public Void visitForLoop(ForLoopTree loop, Void none) {
        end(loop, loop.getCondition());
        return super.visitForLoop(loop, none);
    }

    @Override
    public Void visitWhileLoop(WhileLoopTree loop, Void none) {
        end(loop, loop.getCondition());
        return super.visitWhileLoop(loop, none);
    }

    @Override
    public Void visitDoWhileLoop(DoWhileLoopTree loop, Void none) {
        end(loop, loop.getCondition());
        return super.visitDoWhileLoop(loop, none);
    }

    @Override
    public Void visitEnhancedForLoop(EnhancedForLoopTree loop, Void none) {
        rule(12, loop, "for over an array alone", trees.getTypeMirror(
                new TreePath(getCurrentPath(), loop.getExpression())).toString().endsWith("[]"));
        return super.visitEnhancedForLoop(loop, none);
    }

    private void divisor(Tree at, Tree.Kind kind, ExpressionTree by) {
        boolean divides = kind == Tree.Kind.DIVIDE || kind == Tree.Kind.REMAINDER
                || kind == Tree.Kind.DIVIDE_ASSIGNMENT || kind == Tree.Kind.REMAINDER_ASSIGNMENT;
        rule(7, at, "a divisor is a number that is written there",
                !divides || by instanceof LiteralTree && !by.toString().equals("0"));
    }

    @Override
    public Void visitBinary(BinaryTree b, Void none) {
        divisor(b, b.getKind(), b.getRightOperand());
        rule(10, b, "no joining of texts by +", !trees.getTypeMirror(getCurrentPath()).toString().endsWith("String"));
        return super.visitBinary(b, none);
    }

    @Override
    public Void visitCompoundAssignment(CompoundAssignmentTree a, Void none) {
        divisor(a, a.getKind(), a.getExpression());
        return super.visitCompoundAssignment(a, none);
    }

    @Override
    public Void visitLambdaExpression(LambdaExpressionTree lambda, Void none) {
        rule(2, lambda, "no lambda", false);
        return null;
    }

    @Override
    public Void visitMemberReference(MemberReferenceTree reference, Void none) {
        rule(2, reference, "no method reference", false);
        return null;
    }

    @Override
    public Void visitTry(TryTree attempt, Void none) {
        rule(6, attempt, "no finally and no resources",
                attempt.getFinallyBlock() == null && attempt.getResources().isEmpty());
        return super.visitTry(attempt, none);
    }

    @Override
    public Void visitSynchronized(SynchronizedTree block, Void none) {
        rule(6, block, "no synchronized", false);
        return null;
    }

    @Override
    public Void visitAssert(AssertTree a, Void none) {
        rule(6, a, "no assert", false);
        return null;
    }
}
