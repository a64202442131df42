import com.sun.source.tree.AssertTree;
import com.sun.source.tree.BinaryTree;
import com.sun.source.tree.BlockTree;
import com.sun.source.tree.ClassTree;
import com.sun.source.tree.CompilationUnitTree;
import com.sun.source.tree.DoWhileLoopTree;
import com.sun.source.tree.ExpressionTree;
import com.sun.source.tree.ForLoopTree;
import com.sun.source.tree.ImportTree;
import com.sun.source.tree.LambdaExpressionTree;
import com.sun.source.tree.LiteralTree;
import com.sun.source.tree.MemberReferenceTree;
import com.sun.source.tree.MethodInvocationTree;
import com.sun.source.tree.MethodTree;
import com.sun.source.tree.NewClassTree;
import com.sun.source.tree.SynchronizedTree;
import com.sun.source.tree.ThrowTree;
import com.sun.source.tree.Tree;
import com.sun.source.tree.TryTree;
import com.sun.source.tree.TypeCastTree;
import com.sun.source.tree.VariableTree;
import com.sun.source.tree.WhileLoopTree;
import com.sun.source.util.JavacTask;
import com.sun.source.util.SourcePositions;
import com.sun.source.util.TreePath;
import com.sun.source.util.TreePathScanner;
import com.sun.source.util.Trees;
import java.io.File;
import java.io.IOException;
import java.util.HashMap;
import java.util.List;
import java.util.Map;
import java.util.Set;
import java.util.TreeSet;
import javax.lang.model.element.Element;
import javax.lang.model.element.ElementKind;
import javax.lang.model.element.Modifier;
import javax.lang.model.element.TypeElement;
import javax.lang.model.type.TypeMirror;
import javax.tools.JavaCompiler;
import javax.tools.StandardJavaFileManager;
import javax.tools.ToolProvider;

/**
 * The rules of LANGUAGE.md that the class's text shows, looked at in the tree that javac makes of it. It is stricter
 * than the rules where the class has no need of what they allow: no try, no recursion, no casts of objects.
 */
public final class LanguageTest extends TreePathScanner<Void, Void> {
    private static final String CLASS = "src/main/java/DrillArchive.java";
    private static final Set<String> LIBRARY = Set.of("Arrays.copyOf", "Arrays.copyOfRange", "Arrays.fill",
            "Math.abs", "Math.max", "Math.min", "String.length", "String.charAt", "System.arraycopy");
    private static final Set<String> EXCEPTIONS = Set.of("IllegalArgumentException", "IndexOutOfBoundsException");
    private static final Set<String> CONSTANTS = Set.of("int", "long", "boolean", "char", "java.lang.String",
            "int[]", "long[]", "char[]", "byte[]");
    private static final Set<String> NUMBERS = Set.of("int", "long", "short", "byte", "char", "boolean");

    private final Trees trees;
    private final SourcePositions positions;
    private final CompilationUnitTree unit;
    private final Map<String, Set<String>> callsOf = new HashMap<>();
    private final Map<String, Integer> fieldsOf = new HashMap<>();
    private final Set<String> classes = new TreeSet<>();

    private LanguageTest(Trees trees, CompilationUnitTree unit) {
        this.trees = trees;
        this.unit = unit;
        positions = trees.getSourcePositions();
    }

    public static void main(String[] args) throws IOException {
        JavaCompiler compiler = ToolProvider.getSystemJavaCompiler();
        try (StandardJavaFileManager files = compiler.getStandardFileManager(null, null, null)) {
            JavacTask task = (JavacTask) compiler.getTask(null, files, null, List.of("-proc:none"), null,
                    files.getJavaFileObjects(new File(CLASS)));
            CompilationUnitTree unit = task.parse().iterator().next();
            task.analyze();
            LanguageTest test = new LanguageTest(Trees.instance(task), unit);
            test.scan(unit, null);
            test.wholeFile();
        }
        Check.end("LanguageTest");
    }

    private void rule(int number, String what, boolean kept) {
        Check.due("rule " + number + ": " + what, kept, true);
    }

    private String place(Tree tree) {
        return "line " + line(positions.getStartPosition(unit, tree));
    }

    private long line(long position) {
        return unit.getLineMap().getLineNumber(position);
    }

    private void wholeFile() {
        rule(1, "no package", unit.getPackageName() == null);
        rule(11, "at most twelve classes: " + classes, classes.size() <= 12);
        for (Map.Entry<String, Integer> entry : fieldsOf.entrySet()) {
            rule(11, "at most twenty fields: " + entry, entry.getValue() <= 20);
        }
        for (String method : callsOf.keySet()) {
            rule(11, "at most eight deep: " + method, depth(method, 1) <= 8);
        }
    }

    /** How many calls stand open at once from this method on; a recursion would come out far too deep. */
    private int depth(String method, int above) {
        int deepest = 1;
        if (above > 20) {
            return above;
        }
        for (String called : callsOf.getOrDefault(method, Set.of())) {
            deepest = Math.max(deepest, 1 + depth(called, above + 1));
        }
        return deepest;
    }

    @Override
    public Void visitImport(ImportTree tree, Void none) {
        rule(4, "import " + tree.getQualifiedIdentifier(),
                !tree.isStatic() && tree.getQualifiedIdentifier().toString().equals("java.util.Arrays"));
        return super.visitImport(tree, none);
    }

    @Override
    public Void visitClass(ClassTree tree, Void none) {
        TypeElement element = (TypeElement) trees.getElement(getCurrentPath());
        classes.add(element.getQualifiedName().toString());
        if (getCurrentPath().getParentPath().getLeaf() != unit) {
            rule(2, "a class inside is a static member: " + element, element.getModifiers().contains(Modifier.STATIC));
            rule(1, "a class inside is not public: " + element, !element.getModifiers().contains(Modifier.PUBLIC)
                    && !element.getModifiers().contains(Modifier.PROTECTED));
        }
        for (Tree member : tree.getMembers()) {
            rule(5, "no initialiser block, " + place(member), !(member instanceof BlockTree));
        }
        return super.visitClass(tree, none);
    }

    @Override
    public Void visitVariable(VariableTree tree, Void none) {
        Element element = trees.getElement(getCurrentPath());
        rule(3, "type of " + tree + ", " + place(tree), isAllowed(element.asType()));
        if (element.getKind() == ElementKind.FIELD) {
            boolean fixed = element.getModifiers().contains(Modifier.STATIC);
            if (fixed) {
                rule(5, "a constant: " + tree, element.getModifiers().contains(Modifier.FINAL)
                        && CONSTANTS.contains(element.asType().toString()));
            } else {
                fieldsOf.merge(element.getEnclosingElement().toString(), 1, Integer::sum);
            }
        }
        return super.visitVariable(tree, none);
    }

    private boolean isAllowed(TypeMirror type) {
        String name = type.toString();
        String one = name.endsWith("[]") ? name.substring(0, name.length() - 2) : name;
        boolean rowsOfNumbers = one.endsWith("[]") && NUMBERS.contains(one.substring(0, one.length() - 2));
        return NUMBERS.contains(one) || rowsOfNumbers || name.equals("java.lang.String")
                || one.equals("DrillArchive") || one.startsWith("DrillArchive.");
    }

    @Override
    public Void visitMethod(MethodTree tree, Void none) {
        Element element = trees.getElement(getCurrentPath());
        callsOf.putIfAbsent(named(element), new TreeSet<>());
        long last = positions.getEndPosition(unit, tree);
        long lines = last < 0 ? 1 : line(last) - line(positions.getStartPosition(unit, tree)) + 1;
        rule(11, "some sixty lines: " + element, lines <= 60);
        rule(11, "at most seven parameters: " + element, tree.getParameters().size() <= 7);
        rule(6, "no equals, hashCode, toString: " + element,
                !Set.of("equals", "hashCode", "toString").contains(tree.getName().toString()));
        return super.visitMethod(tree, none);
    }

    @Override
    public Void visitMethodInvocation(MethodInvocationTree tree, Void none) {
        called(trees.getElement(new TreePath(getCurrentPath(), tree.getMethodSelect())), tree);
        return super.visitMethodInvocation(tree, none);
    }

    @Override
    public Void visitNewClass(NewClassTree tree, Void none) {
        rule(2, "no anonymous class, " + place(tree), tree.getClassBody() == null);
        called(trees.getElement(getCurrentPath()), tree);
        return super.visitNewClass(tree, none);
    }

    private void called(Element method, Tree tree) {
        Element owner = method.getEnclosingElement();
        boolean own = classes.contains(owner.toString()) || owner.toString().startsWith("DrillArchive");
        String plain = owner.getSimpleName() + "." + method.getSimpleName();
        boolean made = method.getKind() == ElementKind.CONSTRUCTOR;
        if (own) {
            MethodTree from = enclosingMethod();
            if (from != null) {
                String caller = named(trees.getElement(trees.getPath(unit, from)));
                callsOf.computeIfAbsent(caller, name -> new TreeSet<>()).add(named(method));
            }
        } else {
            boolean thrown = made && EXCEPTIONS.contains(owner.getSimpleName().toString());
            boolean above = made && owner.toString().equals("java.lang.Object");
            rule(4, "of the library: " + plain + ", " + place(tree), LIBRARY.contains(plain) || thrown || above);
        }
    }

    private MethodTree enclosingMethod() {
        for (TreePath path = getCurrentPath(); path != null; path = path.getParentPath()) {
            if (path.getLeaf() instanceof MethodTree method) {
                return method;
            }
        }
        return null;
    }

    private static String named(Element method) {
        return method.getEnclosingElement() + "." + method;
    }

    @Override
    public Void visitThrow(ThrowTree tree, Void none) {
        boolean written = tree.getExpression() instanceof NewClassTree made
                && EXCEPTIONS.contains(made.getIdentifier().toString())
                && made.getArguments().stream().allMatch(LiteralTree.class::isInstance);
        rule(6, "throw new E(\"a written text\"), " + place(tree), written);
        MethodTree from = enclosingMethod();
        rule(6, "no throw in a constructor, " + place(tree), from != null && !from.getName().contentEquals("<init>"));
        return super.visitThrow(tree, none);
    }

    @Override
    public Void visitTry(TryTree tree, Void none) {
        rule(6, "no try, " + place(tree), false);
        return super.visitTry(tree, none);
    }

    @Override
    public Void visitSynchronized(SynchronizedTree tree, Void none) {
        rule(6, "no synchronized, " + place(tree), false);
        return super.visitSynchronized(tree, none);
    }

    @Override
    public Void visitAssert(AssertTree tree, Void none) {
        rule(6, "no assert, " + place(tree), false);
        return super.visitAssert(tree, none);
    }

    @Override
    public Void visitLambdaExpression(LambdaExpressionTree tree, Void none) {
        rule(2, "no lambda, " + place(tree), false);
        return super.visitLambdaExpression(tree, none);
    }

    @Override
    public Void visitMemberReference(MemberReferenceTree tree, Void none) {
        rule(2, "no method reference, " + place(tree), false);
        return super.visitMemberReference(tree, none);
    }

    @Override
    public Void visitTypeCast(TypeCastTree tree, Void none) {
        TypeMirror type = trees.getTypeMirror(getCurrentPath());
        rule(7, "casts of numbers alone, " + place(tree), NUMBERS.contains(type.toString()));
        return super.visitTypeCast(tree, none);
    }

    @Override
    public Void visitBinary(BinaryTree tree, Void none) {
        TypeMirror type = trees.getTypeMirror(getCurrentPath());
        rule(10, "no texts joined by +, " + place(tree), !type.toString().equals("java.lang.String"));
        if (tree.getKind() == Tree.Kind.DIVIDE || tree.getKind() == Tree.Kind.REMAINDER) {
            rule(7, "divisors told apart from 0, " + place(tree), isNeverZero(tree.getRightOperand()));
        }
        return super.visitBinary(tree, none);
    }

    /** A written number, a constant, or the unit that the loop round it holds above 0. */
    private boolean isNeverZero(ExpressionTree divisor) {
        String written = divisor.toString();
        return divisor instanceof LiteralTree ? !written.equals("0")
                : Set.of("BYTE_VALUES", "SUM_MODULUS", "unit").contains(written);
    }

    @Override
    public Void visitForLoop(ForLoopTree tree, Void none) {
        rule(9, "an end that can be seen, " + place(tree), tree.getCondition() instanceof BinaryTree);
        return super.visitForLoop(tree, none);
    }

    @Override
    public Void visitWhileLoop(WhileLoopTree tree, Void none) {
        rule(9, "an end that can be seen, " + place(tree), !tree.getCondition().toString().equals("(true)"));
        return super.visitWhileLoop(tree, none);
    }

    @Override
    public Void visitDoWhileLoop(DoWhileLoopTree tree, Void none) {
        rule(9, "an end that can be seen, " + place(tree), !tree.getCondition().toString().equals("(true)"));
        return super.visitDoWhileLoop(tree, none);
    }
}
