import com.sun.source.tree.ArrayTypeTree;
import com.sun.source.tree.AssertTree;
import com.sun.source.tree.BinaryTree;
import com.sun.source.tree.BlockTree;
import com.sun.source.tree.CatchTree;
import com.sun.source.tree.ClassTree;
import com.sun.source.tree.CompilationUnitTree;
import com.sun.source.tree.CompoundAssignmentTree;
import com.sun.source.tree.ExpressionTree;
import com.sun.source.tree.LambdaExpressionTree;
import com.sun.source.tree.LiteralTree;
import com.sun.source.tree.MemberReferenceTree;
import com.sun.source.tree.MethodInvocationTree;
import com.sun.source.tree.MethodTree;
import com.sun.source.tree.NewClassTree;
import com.sun.source.tree.SynchronizedTree;
import com.sun.source.tree.ThrowTree;
import com.sun.source.tree.Tree;
import com.sun.source.tree.TryTree;
import com.sun.source.tree.VariableTree;
import com.sun.source.util.JavacTask;
import com.sun.source.util.TreePath;
import com.sun.source.util.TreePathScanner;
import com.sun.source.util.Trees;
import java.io.IOException;
import java.nio.file.Path;
import java.util.HashMap;
import java.util.HashSet;
import java.util.List;
import java.util.Map;
import java.util.Set;
import java.util.TreeSet;
import javax.lang.model.element.Element;
import javax.lang.model.element.ElementKind;
import javax.lang.model.element.Modifier;
import javax.lang.model.element.TypeElement;
import javax.tools.JavaCompiler;
import javax.tools.StandardJavaFileManager;
import javax.tools.ToolProvider;

/** The rules of LANGUAGE.md that can be seen in the text of the class. */
final class LanguageTest extends TreePathScanner<Void, Void> {
    private static final Path PLACE = Path.of("src/main/java/EvenFerry.java");
    private static final Set<String> EXCEPTIONS = Set.of("IllegalStateException", "IllegalArgumentException",
            "IndexOutOfBoundsException", "ArithmeticException", "UnsupportedOperationException", "NoSuchElementException",
            "RuntimeException");
    private static final Map<String, Set<String>> LIBRARY = Map.of(
            "String", Set.of("length", "charAt", "isEmpty", "equals", "indexOf", "substring", "toCharArray"),
            "StringBuilder", Set.of("append", "charAt", "setCharAt", "setLength", "deleteCharAt", "reverse", "length",
                    "toString"),
            "AbstractStringBuilder", Set.of("charAt", "setCharAt", "setLength", "length"),
            "ArrayList", Set.of("add", "get", "set", "remove", "size", "isEmpty", "clear"),
            "List", Set.of("add", "get", "set", "remove", "size", "isEmpty", "clear", "of"),
            "Math", Set.of("max", "min", "abs", "floorDiv", "floorMod"),
            "Integer", Set.of("compare", "max", "min", "bitCount"),
            "Long", Set.of("compare", "max", "min", "bitCount"),
            "System", Set.of("arraycopy"),
            "Arrays", Set.of("copyOf", "copyOfRange", "fill"));
    private static final Set<String> CONSTANTS = Set.of("int", "long", "boolean", "char", "java.lang.String", "int[]",
            "long[]", "char[]", "byte[]");

    private final Trees trees;
    private final CompilationUnitTree unit;
    private final Map<Element, Set<Element>> calls = new HashMap<>();
    private final Set<String> found = new TreeSet<>();
    private Element method;
    private int classes;

    private LanguageTest(Trees trees, CompilationUnitTree unit) {
        this.trees = trees;
        this.unit = unit;
    }

    public static void main(String[] args) throws IOException {
        JavaCompiler compiler = ToolProvider.getSystemJavaCompiler();
        try (StandardJavaFileManager files = compiler.getStandardFileManager(null, null, null)) {
            JavacTask task = (JavacTask) compiler.getTask(null, files, null, List.of("-proc:none"), null,
                    files.getJavaFileObjects(PLACE));
            CompilationUnitTree unit = task.parse().iterator().next();
            task.analyze();
            LanguageTest test = new LanguageTest(Trees.instance(task), unit);
            test.scan(unit, null);
            test.endOfFile();
            for (String fault : test.found) {
                Check.due(fault, true, false);
            }
            Check.due("methods looked at", test.calls.size() > 26, true);
        }
        Check.end();
    }

    private void rule(int number, boolean kept, Tree tree, String what) {
        if (!kept) {
            long line = unit.getLineMap().getLineNumber(trees.getSourcePositions().getStartPosition(unit, tree));
            found.add("line " + line + ": rule " + number + ", " + what);
        }
    }

    private void endOfFile() {
        rule(2, unit.getTypeDecls().size() == 1 && unit.getPackage() == null, unit, "one class without a package");
        rule(11, classes <= 12, unit, classes + " classes");
        for (Element start : calls.keySet()) {
            int deep = depth(start, new HashSet<>());
            rule(11, deep <= 8, unit, start + " goes " + deep + " calls deep");
        }
    }

    /** How many methods stand open at once at most, one that calls itself but once. */
    private int depth(Element from, Set<Element> open) {
        if (!open.add(from)) {
            return 0;
        }
        int deepest = 0;
        for (Element next : calls.getOrDefault(from, Set.of())) {
            deepest = Math.max(deepest, depth(next, open));
        }
        open.remove(from);
        return deepest + 1;
    }

    @Override
    public Void visitClass(ClassTree tree, Void none) {
        classes++;
        int fields = 0;
        for (Tree member : tree.getMembers()) {
            rule(5, !(member instanceof BlockTree), member, "a block that initialises");
            if (member instanceof VariableTree field && !field.getModifiers().getFlags().contains(Modifier.STATIC)) {
                fields++;
            }
        }
        rule(11, fields <= 20, tree, fields + " fields");
        rule(2, tree.getModifiers().getFlags().contains(Modifier.STATIC) || classes == 1, tree, "a class that is not static");
        return super.visitClass(tree, none);
    }

    @Override
    public Void visitMethod(MethodTree tree, Void none) {
        Element outer = method;
        method = trees.getElement(getCurrentPath());
        calls.putIfAbsent(method, new HashSet<>());
        rule(11, tree.getParameters().size() <= 7, tree, "too many parameters");
        long from = trees.getSourcePositions().getStartPosition(unit, tree);
        long end = trees.getSourcePositions().getEndPosition(unit, tree);
        long lines = end < 0 ? 0 : unit.getLineMap().getLineNumber(end) - unit.getLineMap().getLineNumber(from) + 1;
        rule(11, lines <= 60, tree, tree.getName() + " has " + lines + " lines");
        super.visitMethod(tree, none);
        method = outer;
        return null;
    }

    @Override
    public Void visitVariable(VariableTree tree, Void none) {
        Element element = trees.getElement(getCurrentPath());
        if (element.getKind() == ElementKind.FIELD && element.getModifiers().contains(Modifier.STATIC)) {
            rule(5, element.getModifiers().contains(Modifier.FINAL), tree, tree.getName() + " is not final");
            rule(5, CONSTANTS.contains(element.asType().toString()), tree, tree.getName() + " is no such constant");
        }
        return super.visitVariable(tree, none);
    }

    @Override
    public Void visitArrayType(ArrayTypeTree tree, Void none) {
        if (tree.getType() instanceof ArrayTypeTree inner) {
            rule(3, inner.getType().getKind() == Tree.Kind.PRIMITIVE_TYPE, tree, "more than two dimensions, or of objects");
        }
        return super.visitArrayType(tree, none);
    }

    @Override
    public Void visitMethodInvocation(MethodInvocationTree tree, Void none) {
        noteCall(trees.getElement(getCurrentPath()), tree);
        return super.visitMethodInvocation(tree, none);
    }

    @Override
    public Void visitNewClass(NewClassTree tree, Void none) {
        Element made = trees.getElement(getCurrentPath());
        if (isOwn(made)) {
            noteCall(made, tree);
        } else {
            String name = made.getEnclosingElement().getSimpleName().toString();
            boolean listed = EXCEPTIONS.contains(name) || Set.of("String", "StringBuilder", "ArrayList").contains(name);
            rule(4, listed, tree, "new " + name);
        }
        return super.visitNewClass(tree, none);
    }

    private void noteCall(Element called, Tree tree) {
        String owner = called.getEnclosingElement().getSimpleName().toString();
        if (isOwn(called)) {
            calls.computeIfAbsent(method, key -> new HashSet<>()).add(called);
        } else if (called.getKind() == ElementKind.METHOD) {
            String name = called.getSimpleName().toString();
            rule(4, LIBRARY.getOrDefault(owner, Set.of()).contains(name), tree, owner + "." + name);
        }
    }

    private static boolean isOwn(Element element) {
        Element outermost = element;
        while (outermost.getEnclosingElement() instanceof TypeElement outer) {
            outermost = outer;
        }
        return outermost.getSimpleName().contentEquals("EvenFerry");
    }

    @Override
    public Void visitBinary(BinaryTree tree, Void none) {
        rule(10, tree.getKind() != Tree.Kind.PLUS || !isText(), tree, "texts joined by +");
        boolean compares = tree.getKind() == Tree.Kind.EQUAL_TO || tree.getKind() == Tree.Kind.NOT_EQUAL_TO;
        boolean boxed = isBoxed(tree.getLeftOperand()) && isBoxed(tree.getRightOperand());
        rule(6, !compares || !boxed, tree, "== of two Strings or Integers");
        return super.visitBinary(tree, none);
    }

    @Override
    public Void visitCompoundAssignment(CompoundAssignmentTree tree, Void none) {
        rule(10, !isText(), tree, "texts joined by +=");
        return super.visitCompoundAssignment(tree, none);
    }

    private boolean isText() {
        return "java.lang.String".equals(String.valueOf(trees.getTypeMirror(getCurrentPath())));
    }

    /** A String or an Integer, of which == looks at the object. */
    private boolean isBoxed(ExpressionTree tree) {
        String type = String.valueOf(trees.getTypeMirror(new TreePath(getCurrentPath(), tree)));
        return type.equals("java.lang.String") || type.equals("java.lang.Integer");
    }

    @Override
    public Void visitThrow(ThrowTree tree, Void none) {
        rule(6, method == null || method.getKind() != ElementKind.CONSTRUCTOR, tree, "a throw in a constructor");
        boolean plain = tree.getExpression() instanceof NewClassTree made && made.getArguments().size() <= 1
                && EXCEPTIONS.contains(made.getIdentifier().toString())
                && made.getArguments().stream().allMatch(text -> text instanceof LiteralTree);
        rule(6, plain, tree, "throw of another kind");
        return super.visitThrow(tree, none);
    }

    @Override
    public Void visitTry(TryTree tree, Void none) {
        rule(6, tree.getFinallyBlock() == null && tree.getResources().isEmpty(), tree, "finally or resources");
        return super.visitTry(tree, none);
    }

    @Override
    public Void visitCatch(CatchTree tree, Void none) {
        rule(6, EXCEPTIONS.contains(tree.getParameter().getType().toString()), tree, "a catch of another class");
        return super.visitCatch(tree, none);
    }

    @Override
    public Void visitLambdaExpression(LambdaExpressionTree tree, Void none) {
        rule(2, false, tree, "a lambda");
        return super.visitLambdaExpression(tree, none);
    }

    @Override
    public Void visitMemberReference(MemberReferenceTree tree, Void none) {
        rule(2, false, tree, "a method reference");
        return super.visitMemberReference(tree, none);
    }

    @Override
    public Void visitSynchronized(SynchronizedTree tree, Void none) {
        rule(6, false, tree, "synchronized");
        return super.visitSynchronized(tree, none);
    }

    @Override
    public Void visitAssert(AssertTree tree, Void none) {
        rule(6, false, tree, "assert");
        return super.visitAssert(tree, none);
    }
}
