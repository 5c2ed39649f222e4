import com.sun.source.tree.AssertTree;
import com.sun.source.tree.BinaryTree;
import com.sun.source.tree.ClassTree;
import com.sun.source.tree.CompilationUnitTree;
import com.sun.source.tree.ConditionalExpressionTree;
import com.sun.source.tree.ExpressionTree;
import com.sun.source.tree.ImportTree;
import com.sun.source.tree.LambdaExpressionTree;
import com.sun.source.tree.LiteralTree;
import com.sun.source.tree.MemberReferenceTree;
import com.sun.source.tree.MethodInvocationTree;
import com.sun.source.tree.MethodTree;
import com.sun.source.tree.NewArrayTree;
import com.sun.source.tree.NewClassTree;
import com.sun.source.tree.SynchronizedTree;
import com.sun.source.tree.ThrowTree;
import com.sun.source.tree.Tree;
import com.sun.source.tree.TryTree;
import com.sun.source.tree.TypeCastTree;
import com.sun.source.tree.VariableTree;
import com.sun.source.util.JavacTask;
import com.sun.source.util.TreePath;
import com.sun.source.util.TreePathScanner;
import com.sun.source.util.Trees;
import java.io.IOException;
import java.nio.file.Files;
import java.nio.file.Path;
import java.util.HashMap;
import java.util.HashSet;
import java.util.List;
import java.util.Map;
import java.util.Set;
import java.util.TreeSet;
import javax.lang.model.element.Element;
import javax.lang.model.element.ElementKind;
import javax.lang.model.element.ExecutableElement;
import javax.lang.model.element.Modifier;
import javax.lang.model.element.NestingKind;
import javax.lang.model.element.TypeElement;
import javax.lang.model.element.VariableElement;
import javax.lang.model.type.ArrayType;
import javax.lang.model.type.DeclaredType;
import javax.lang.model.type.TypeKind;
import javax.lang.model.type.TypeMirror;
import javax.tools.JavaCompiler;
import javax.tools.StandardJavaFileManager;
import javax.tools.ToolProvider;

/** The rules of LANGUAGE.md, looked up in the tree that the compiler makes of the class. */
public final class LanguageTests extends TreePathScanner<Void, Void> {
    private static final Path SOURCE = Path.of("src/main/java/InflectionGuesser.java");
    /** Of what rule 4 allows, what the class needs; whoever needs more of it adds it here. */
    private static final Set<String> LIBRARY = Set.of(
            "java.lang.Integer.bitCount(int)", "java.lang.Math.max(int,int)", "java.lang.Math.min(int,int)",
            "java.lang.System.arraycopy(java.lang.Object,int,java.lang.Object,int,int)");
    private static final Set<String> EXCEPTIONS = Set.of(
            "IllegalStateException", "IllegalArgumentException", "IndexOutOfBoundsException",
            "ArithmeticException", "UnsupportedOperationException", "NoSuchElementException",
            "RuntimeException");
    private static final int LINES_OF_A_METHOD = 60;
    private static final int DEEPEST = 8;
    private static final String FIELDS = "the fields of ";

    private final Trees trees;
    private final CompilationUnitTree unit;
    private final Map<String, Set<String>> calls = new HashMap<>();
    private final Set<String> face = new TreeSet<>();
    /** Where the scan stands: a method, a constructor, or the fields of a class. */
    private String method = "";
    private boolean isConstructor;

    private LanguageTests(Trees trees, CompilationUnitTree unit) {
        this.trees = trees;
        this.unit = unit;
    }

    public static void main(String[] args) throws IOException {
        JavaCompiler compiler = ToolProvider.getSystemJavaCompiler();
        try (StandardJavaFileManager files = compiler.getStandardFileManager(null, null, null)) {
            JavacTask task = (JavacTask) compiler.getTask(null, files, null,
                    List.of("--release", "17", "-proc:none"), null, files.getJavaFileObjects(SOURCE));
            CompilationUnitTree unit = task.parse().iterator().next();
            task.analyze();
            LanguageTests tests = new LanguageTests(Trees.instance(task), unit);
            tests.scan(unit, null);
            tests.checkDepth();
        }
        Checks.part("rule 4");
        Checks.due("signs beyond 127", Files.readString(SOURCE).chars().anyMatch(c -> c > 127), false);
        Checks.end();
    }

    private Element element() {
        return trees.getElement(getCurrentPath());
    }

    private void never(String what) {
        Checks.due(what, "found", "none");
    }

    private static String name(Element executable) {
        return executable.getEnclosingElement() + "." + executable;
    }

    private boolean isOwn(Element element) {
        TreePath path = trees.getPath(element);
        return path != null && path.getCompilationUnit() == unit;
    }

    // ---- the file and its classes

    @Override
    public Void visitImport(ImportTree tree, Void none) {
        Checks.due("an import", tree.getQualifiedIdentifier().toString(), "java.util.NoSuchElementException");
        return null;
    }

    @Override
    public Void visitClass(ClassTree tree, Void none) {
        TypeElement type = (TypeElement) element();
        Checks.part("rule 2, " + type);
        boolean isFace = type.getNestingKind() == NestingKind.TOP_LEVEL;
        Checks.due("it is a member or the face", isFace || type.getNestingKind() == NestingKind.MEMBER, true);
        Checks.due("it is static", isFace || type.getModifiers().contains(Modifier.STATIC), true);
        String outside = method;
        method = FIELDS + type;
        super.visitClass(tree, none);
        method = outside;
        return null;
    }

    @Override
    public Void visitVariable(VariableTree tree, Void none) {
        VariableElement variable = (VariableElement) element();
        checkType(variable.asType(), variable.toString());
        boolean isStatic = variable.getKind() == ElementKind.FIELD
                && variable.getModifiers().contains(Modifier.STATIC);
        if (isStatic) {
            Checks.part("rule 5, " + variable);
            Checks.due("it is final", variable.getModifiers().contains(Modifier.FINAL), true);
            Checks.due("it is written out",
                    variable.getConstantValue() != null || isWrittenOut(tree.getInitializer()), true);
        }
        return super.visitVariable(tree, none);
    }

    private static boolean isWrittenOut(ExpressionTree value) {
        return value instanceof NewArrayTree array && array.getInitializers() != null
                && array.getInitializers().stream().allMatch(LiteralTree.class::isInstance);
    }

    /** Numbers, own classes, and rows of one dimension of these are all that the class needs. */
    private void checkType(TypeMirror type, String what) {
        Checks.part("rule 3, " + what + " in " + method);
        TypeMirror part = type.getKind() == TypeKind.ARRAY
                ? ((ArrayType) type).getComponentType() : type;
        boolean isOwn = part.getKind() == TypeKind.DECLARED
                && isOwn(((DeclaredType) part).asElement());
        Checks.due("its type is a number's or an own class's", part.getKind().isPrimitive() || isOwn, true);
    }

    // ---- methods and what they call

    @Override
    public Void visitMethod(MethodTree tree, Void none) {
        ExecutableElement executable = (ExecutableElement) element();
        String outside = method;
        method = name(executable);
        isConstructor = executable.getKind() == ElementKind.CONSTRUCTOR;
        if (isConstructor) {
            call(outside);
        }
        if (executable.getModifiers().contains(Modifier.PUBLIC)) {
            face.add(method);
        }
        Checks.part("rule 11, " + method);
        Checks.due("at most seven parameters", tree.getParameters().size() <= 7, true);
        Checks.due("some sixty lines", lines(tree) <= LINES_OF_A_METHOD, true);
        super.visitMethod(tree, none);
        method = outside;
        isConstructor = false;
        return null;
    }

    private long lines(Tree tree) {
        long start = trees.getSourcePositions().getStartPosition(unit, tree);
        long end = trees.getSourcePositions().getEndPosition(unit, tree);
        return start < 0 ? 0 : unit.getLineMap().getLineNumber(end) - unit.getLineMap().getLineNumber(start) + 1;
    }

    /** The call of Object's constructor that the compiler puts into each constructor is not looked at. */
    @Override
    public Void visitMethodInvocation(MethodInvocationTree tree, Void none) {
        Element called = element();
        boolean isHidden = called.getKind() == ElementKind.CONSTRUCTOR && !isOwn(called);
        if (!isHidden) {
            checkCall(called);
        }
        return super.visitMethodInvocation(tree, none);
    }

    @Override
    public Void visitNewClass(NewClassTree tree, Void none) {
        Element made = element().getEnclosingElement();
        boolean isThrown = getCurrentPath().getParentPath().getLeaf() instanceof ThrowTree;
        Checks.part("rules 2 and 4, new " + made + " in " + method);
        Checks.due("without a body", tree.getClassBody() == null, true);
        Checks.due("an own class, or thrown", isOwn(made) || isThrown, true);
        if (isOwn(made)) {
            checkCall(element());
        }
        return super.visitNewClass(tree, none);
    }

    private void checkCall(Element called) {
        Checks.part("rule 4, " + method);
        Checks.due(name(called) + " is own or allowed", isOwn(called) || LIBRARY.contains(name(called)), true);
        call(name(called));
    }

    private void call(String called) {
        calls.computeIfAbsent(method, m -> new TreeSet<>()).add(called);
    }

    private void checkDepth() {
        Checks.part("rule 11");
        Checks.due("methods of the face", face.size() > 40, true);
        for (String start : face) {
            int depth = depth(start, new HashSet<>());
            Checks.due(start + " goes at most eight deep (" + depth + ")", depth <= DEEPEST, true);
        }
    }

    private int depth(String from, Set<String> open) {
        if (!open.add(from)) {
            never("a method that calls itself: " + from);
            return 0;
        }
        int deepest = 0;
        for (String called : calls.getOrDefault(from, Set.of())) {
            deepest = Math.max(deepest, depth(called, open));
        }
        open.remove(from);
        return from.startsWith(FIELDS) ? deepest : deepest + 1;
    }

    // ---- exceptions

    @Override
    public Void visitThrow(ThrowTree tree, Void none) {
        Checks.part("rule 6, " + method);
        Checks.due("no throw in a constructor", isConstructor, false);
        boolean isNew = tree.getExpression() instanceof NewClassTree;
        Checks.due("throw new", isNew, true);
        if (isNew) {
            NewClassTree made = (NewClassTree) tree.getExpression();
            Checks.due(made + " is allowed", EXCEPTIONS.contains(made.getIdentifier().toString()), true);
            Checks.due("with a written text", made.getArguments().size() <= 1
                    && made.getArguments().stream().allMatch(LiteralTree.class::isInstance), true);
        }
        return super.visitThrow(tree, none);
    }

    @Override
    public Void visitTry(TryTree tree, Void none) {
        never("a try in " + method);
        return super.visitTry(tree, none);
    }

    // ---- what the language leaves out or the machine could throw at

    @Override
    public Void visitBinary(BinaryTree tree, Void none) {
        Checks.part("rule 7, " + tree + " in " + method);
        if (tree.getKind() == Tree.Kind.DIVIDE || tree.getKind() == Tree.Kind.REMAINDER) {
            Tree parent = getCurrentPath().getParentPath().getLeaf();
            boolean isAsked = parent instanceof ConditionalExpressionTree;
            boolean isWritten = tree.getRightOperand() instanceof LiteralTree literal
                    && !literal.getValue().equals(0);
            Checks.due("the divisor is looked at or written out", isAsked || isWritten, true);
        }
        return super.visitBinary(tree, none);
    }

    @Override
    public Void visitTypeCast(TypeCastTree tree, Void none) {
        Checks.part("rule 7, " + tree + " in " + method);
        TypeMirror type = trees.getTypeMirror(new TreePath(getCurrentPath(), tree.getType()));
        Checks.due("a cast to a number", type.getKind().isPrimitive(), true);
        return super.visitTypeCast(tree, none);
    }

    @Override
    public Void visitLambdaExpression(LambdaExpressionTree tree, Void none) {
        never("a lambda in " + method);
        return super.visitLambdaExpression(tree, none);
    }

    @Override
    public Void visitMemberReference(MemberReferenceTree tree, Void none) {
        never("a method reference in " + method);
        return super.visitMemberReference(tree, none);
    }

    @Override
    public Void visitSynchronized(SynchronizedTree tree, Void none) {
        never("synchronized in " + method);
        return super.visitSynchronized(tree, none);
    }

    @Override
    public Void visitAssert(AssertTree tree, Void none) {
        never("assert in " + method);
        return super.visitAssert(tree, none);
    }
}
