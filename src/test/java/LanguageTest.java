import com.sun.source.tree.AssertTree;
import com.sun.source.tree.BinaryTree;
import com.sun.source.tree.ClassTree;
import com.sun.source.tree.CatchTree;
import com.sun.source.tree.CompilationUnitTree;
import com.sun.source.tree.ImportTree;
import com.sun.source.tree.LambdaExpressionTree;
import com.sun.source.tree.MemberReferenceTree;
import com.sun.source.tree.MethodInvocationTree;
import com.sun.source.tree.MethodTree;
import com.sun.source.tree.NewClassTree;
import com.sun.source.tree.SynchronizedTree;
import com.sun.source.tree.ThrowTree;
import com.sun.source.tree.Tree;
import com.sun.source.tree.TryTree;
import com.sun.source.tree.VariableTree;
import com.sun.source.util.JavacTask;
import com.sun.source.util.TreePathScanner;
import com.sun.source.util.Trees;
import java.nio.file.Files;
import java.nio.file.Path;
import java.util.HashMap;
import java.util.HashSet;
import java.util.List;
import java.util.Map;
import java.util.Set;
import javax.lang.model.element.Element;
import javax.lang.model.element.ElementKind;
import javax.lang.model.element.Modifier;
import javax.lang.model.element.TypeElement;
import javax.tools.JavaCompiler;
import javax.tools.StandardJavaFileManager;
import javax.tools.ToolProvider;

/** The rules of LANGUAGE.md that can be read off the source, as the compiler understands it. */
final class LanguageTest extends TreePathScanner<Void, Void> {
    private static final Due DUE = new Due("LanguageTest");
    private static final Path SOURCE = Path.of("src/main/java/HillLines.java");
    private static final Set<String> IMPORTS = Set.of("java.util.Arrays", "java.util.ArrayList", "java.util.List",
        "java.util.Iterator", "java.util.NoSuchElementException");
    private static final Set<String> OVER_WHOLE_NUMBERS = Set.of("java.lang.Integer", "java.lang.Long", "java.lang.Math");
    private static final Map<String, Set<String>> LIBRARY = Map.of(
        "java.lang.String", Set.of("length", "charAt", "isEmpty", "equals", "indexOf", "substring", "toCharArray"),
        "java.lang.StringBuilder", Set.of("append", "charAt", "setCharAt", "setLength", "deleteCharAt", "reverse", "length",
            "toString"),
        "java.lang.AbstractStringBuilder", Set.of("charAt", "setCharAt", "setLength", "length"),
        "java.util.ArrayList", Set.of("add", "get", "set", "remove", "size", "isEmpty", "clear"),
        "java.util.List", Set.of("add", "get", "set", "remove", "size", "isEmpty", "clear", "of"),
        "java.util.Iterator", Set.of("hasNext", "next"),
        "java.lang.Iterable", Set.of("iterator"),
        "java.lang.Comparable", Set.of("compareTo"),
        "java.lang.System", Set.of("arraycopy"),
        "java.util.Arrays", Set.of("fill", "copyOf", "copyOfRange"));
    private static final Set<String> EXCEPTIONS = Set.of("IllegalStateException", "IllegalArgumentException",
        "IndexOutOfBoundsException", "ArithmeticException", "UnsupportedOperationException", "NoSuchElementException",
        "RuntimeException");

    private final CompilationUnitTree unit;
    private final Trees trees;
    private final Map<Element, Set<Element>> calls = new HashMap<>();
    private final Set<String> publicNames = new HashSet<>();
    private final Set<String> otherNames = new HashSet<>();
    private Element method = null;
    private int classes = 0;

    private LanguageTest(CompilationUnitTree unit, Trees trees) {
        this.unit = unit;
        this.trees = trees;
    }

    public static void main(String[] args) throws Exception {
        JavaCompiler compiler = ToolProvider.getSystemJavaCompiler();
        try (StandardJavaFileManager files = compiler.getStandardFileManager(null, null, null)) {
            JavacTask task = (JavacTask) compiler.getTask(null, files, null, List.of("-proc:none"), null,
                files.getJavaFileObjects(SOURCE));
            CompilationUnitTree unit = task.parse().iterator().next();
            task.analyze();
            LanguageTest test = new LanguageTest(unit, Trees.instance(task));
            test.scan(unit, null);
            test.whole();
        }
        DUE.end();
    }

    private void whole() throws Exception {
        DUE.same("rule 1: no package", unit.getPackageName() == null, true);
        DUE.same("rule 11: some twelve classes, not " + classes, classes <= 14, true);
        otherNames.retainAll(publicNames);
        otherNames.remove("<init>");
        DUE.same("rule 1: names of the face elsewhere", otherNames, Set.of());
        for (Element from : calls.keySet()) {
            DUE.same("rule 11: calls from " + from + " are eight deep at most", depth(from, new HashSet<>()) <= 8, true);
        }
        for (byte sign : Files.readAllBytes(SOURCE)) {
            if (sign < 1) {
                DUE.same("rule 4: a sign of the source", (int) sign, "1 to 127");
            }
        }
    }

    /** How many calls stand open at the most; a method that stands open already is recursion, and rule 8's. */
    private int depth(Element from, Set<Element> open) {
        int most = 0;
        open.add(from);
        for (Element to : calls.getOrDefault(from, Set.of())) {
            if (!open.contains(to)) {
                most = Math.max(most, depth(to, open));
            }
        }
        open.remove(from);
        return most + 1;
    }

    private static boolean isInLibrary(String owner, String name) {
        if (OVER_WHOLE_NUMBERS.contains(owner)) {
            return !name.endsWith("Exact");
        }
        return LIBRARY.getOrDefault(owner, Set.of()).contains(name);
    }

    private void never(String rule, Tree tree) {
        DUE.same(rule + ", line " + unit.getLineMap().getLineNumber(start(tree)), "is there", "is not there");
    }

    private long start(Tree tree) {
        return trees.getSourcePositions().getStartPosition(unit, tree);
    }

    private long lines(Tree tree) {
        long end = trees.getSourcePositions().getEndPosition(unit, tree);
        return unit.getLineMap().getLineNumber(end) - unit.getLineMap().getLineNumber(start(tree)) + 1;
    }

    private Element element() {
        return trees.getElement(getCurrentPath());
    }

    @Override
    public Void visitImport(ImportTree tree, Void none) {
        DUE.same("rule 4: import " + tree.getQualifiedIdentifier(),
            !tree.isStatic() && IMPORTS.contains(tree.getQualifiedIdentifier().toString()), true);
        return null;
    }

    @Override
    public Void visitClass(ClassTree tree, Void none) {
        classes++;
        int fields = 0;
        for (Tree member : tree.getMembers()) {
            if (member instanceof VariableTree field) {
                Set<Modifier> flags = field.getModifiers().getFlags();
                fields += flags.contains(Modifier.STATIC) ? 0 : 1;
                boolean fixed = !flags.contains(Modifier.STATIC) || flags.contains(Modifier.FINAL);
                DUE.same("rule 5: the static field " + field.getName() + " is final", fixed, true);
            } else if (member.getKind() == Tree.Kind.BLOCK) {
                never("rule 5: an initialiser block", member);
            }
        }
        DUE.same("rule 11: some twenty fields of " + tree.getSimpleName(), fields <= 24, true);
        return super.visitClass(tree, none);
    }

    @Override
    public Void visitMethod(MethodTree tree, Void none) {
        Element before = method;
        method = element();
        calls.putIfAbsent(method, new HashSet<>());
        boolean isPublic = tree.getModifiers().getFlags().contains(Modifier.PUBLIC);
        (isPublic ? publicNames : otherNames).add(tree.getName().toString());
        DUE.same("rule 11: parameters of " + tree.getName(), tree.getParameters().size() <= 7, true);
        DUE.same("rule 11: some sixty lines of " + tree.getName(), lines(tree) <= 70, true);
        super.visitMethod(tree, none);
        method = before;
        return null;
    }

    @Override
    public Void visitMethodInvocation(MethodInvocationTree tree, Void none) {
        Element called = element();
        TypeElement of = (TypeElement) called.getEnclosingElement();
        String owner = of.getQualifiedName().toString();
        String name = called.getSimpleName().toString();
        boolean constructor = called.getKind() == ElementKind.CONSTRUCTOR;
        if (owner.startsWith("java.") && !constructor) {
            DUE.same("rule 4: " + owner + "." + name, isInLibrary(owner, name), true);
        } else if (method != null) {
            calls.get(method).add(called);
        }
        return super.visitMethodInvocation(tree, none);
    }

    @Override
    public Void visitThrow(ThrowTree tree, Void none) {
        boolean made = tree.getExpression() instanceof NewClassTree exception
            && EXCEPTIONS.contains(exception.getIdentifier().toString());
        DUE.same("rule 6: " + tree, made && method != null && method.getKind() != ElementKind.CONSTRUCTOR, true);
        return super.visitThrow(tree, none);
    }

    @Override
    public Void visitBinary(BinaryTree tree, Void none) {
        if (String.valueOf(trees.getTypeMirror(getCurrentPath())).equals("java.lang.String")) {
            never("rule 10: texts joined by +", tree);
        }
        return super.visitBinary(tree, none);
    }

    @Override
    public Void visitTry(TryTree tree, Void none) {
        if (tree.getFinallyBlock() != null || !tree.getResources().isEmpty()) {
            never("rule 6: finally, or try with resources", tree);
        }
        return super.visitTry(tree, none);
    }

    @Override
    public Void visitCatch(CatchTree tree, Void none) {
        DUE.same("rule 6: catch " + tree.getParameter(), EXCEPTIONS.contains(tree.getParameter().getType().toString()), true);
        return super.visitCatch(tree, none);
    }

    @Override
    public Void visitLambdaExpression(LambdaExpressionTree tree, Void none) {
        never("rule 2: a lambda", tree);
        return super.visitLambdaExpression(tree, none);
    }

    @Override
    public Void visitMemberReference(MemberReferenceTree tree, Void none) {
        never("rule 2: a method reference", tree);
        return super.visitMemberReference(tree, none);
    }

    @Override
    public Void visitSynchronized(SynchronizedTree tree, Void none) {
        never("rule 6: synchronized", tree);
        return super.visitSynchronized(tree, none);
    }

    @Override
    public Void visitAssert(AssertTree tree, Void none) {
        never("rule 6: assert", tree);
        return super.visitAssert(tree, none);
    }
}
