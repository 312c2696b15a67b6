import com.sun.source.tree.ArrayAccessTree;
import com.sun.source.tree.ArrayTypeTree;
import com.sun.source.tree.AssertTree;
import com.sun.source.tree.AssignmentTree;
import com.sun.source.tree.BinaryTree;
import com.sun.source.tree.BlockTree;
import com.sun.source.tree.ClassTree;
import com.sun.source.tree.CompilationUnitTree;
import com.sun.source.tree.CompoundAssignmentTree;
import com.sun.source.tree.ExpressionTree;
import com.sun.source.tree.ForLoopTree;
import com.sun.source.tree.IdentifierTree;
import com.sun.source.tree.ImportTree;
import com.sun.source.tree.LambdaExpressionTree;
import com.sun.source.tree.LiteralTree;
import com.sun.source.tree.MemberReferenceTree;
import com.sun.source.tree.MemberSelectTree;
import com.sun.source.tree.MethodInvocationTree;
import com.sun.source.tree.MethodTree;
import com.sun.source.tree.NewArrayTree;
import com.sun.source.tree.NewClassTree;
import com.sun.source.tree.SynchronizedTree;
import com.sun.source.tree.ThrowTree;
import com.sun.source.tree.Tree;
import com.sun.source.tree.TryTree;
import com.sun.source.tree.TypeCastTree;
import com.sun.source.tree.VariableTree;
import com.sun.source.tree.WhileLoopTree;
import com.sun.source.util.JavacTask;
import com.sun.source.util.SourcePositions;
import com.sun.source.util.TreePath;
import com.sun.source.util.TreePathScanner;
import com.sun.source.util.Trees;
import java.io.IOException;
import java.nio.file.Path;
import java.util.ArrayList;
import java.util.HashMap;
import java.util.HashSet;
import java.util.List;
import java.util.Map;
import java.util.Set;
import java.util.regex.Pattern;
import javax.lang.model.element.Element;
import javax.lang.model.element.ElementKind;
import javax.lang.model.element.ExecutableElement;
import javax.lang.model.element.Modifier;
import javax.lang.model.element.VariableElement;
import javax.lang.model.type.ArrayType;
import javax.lang.model.type.TypeKind;
import javax.lang.model.type.TypeMirror;
import javax.tools.JavaCompiler;
import javax.tools.StandardJavaFileManager;
import javax.tools.ToolProvider;

/** The rules of LANGUAGE.md, by the compiler's own trees, where the source's words alone would not tell. */
public final class LanguageTest extends TreePathScanner<Void, Void> {
    private static final Path SOURCE = Path.of("src/main/java/WindCabinet.java");

    // Of rule 4 what the class has some use for; who needs more of the rule adds it here.
    private static final Map<String, Set<String>> LIBRARY = Map.of(
            "java.lang.String", Set.of("length", "charAt", "isEmpty"),
            "java.lang.Math", Set.of("abs", "max", "min"),
            "java.lang.Integer", Set.of("bitCount"),
            "java.lang.System", Set.of("arraycopy"),
            "java.util.Arrays", Set.of("fill"));
    private static final Set<String> MAKERS = Set.of("image");

    private final Trees trees;
    private final SourcePositions positions;
    private final CompilationUnitTree unit;
    private final String source;
    private final Map<Element, Set<Element>> calls = new HashMap<>();
    private int classes;

    private LanguageTest(Trees trees, CompilationUnitTree unit) throws IOException {
        this.trees = trees;
        this.positions = trees.getSourcePositions();
        this.unit = unit;
        this.source = unit.getSourceFile().getCharContent(true).toString();
    }

    public static void main(String[] args) throws IOException {
        JavaCompiler compiler = ToolProvider.getSystemJavaCompiler();
        StandardJavaFileManager files = compiler.getStandardFileManager(null, null, null);
        JavacTask task = (JavacTask) compiler.getTask(null, files, null, List.of("--release", "17"), null,
                files.getJavaFileObjects(SOURCE.toFile()));
        for (CompilationUnitTree unit : task.parse()) {
            task.analyze();
            LanguageTest test = new LanguageTest(Trees.instance(task), unit);
            test.scan(unit, null);
            test.graph();
        }
        Check.finish();
    }

    // ---- what the tree tells of a place

    private void holds(int rule, Tree tree, boolean what) {
        long line = unit.getLineMap().getLineNumber(positions.getStartPosition(unit, tree));
        Check.due("rule " + rule + ", line " + line, what, true);
    }

    private void never(int rule, Tree tree) {
        holds(rule, tree, false);
    }

    private Element elementOf(Tree tree) {
        return trees.getElement(new TreePath(getCurrentPath(), tree));
    }

    private TypeMirror typeOf(Tree tree) {
        return trees.getTypeMirror(new TreePath(getCurrentPath(), tree));
    }

    private MethodTree method() {
        for (TreePath path = getCurrentPath(); path != null; path = path.getParentPath()) {
            if (path.getLeaf() instanceof MethodTree method) {
                return method;
            }
        }
        return null;
    }

    private String methodText() {
        MethodTree method = method();
        return method == null ? "" : text(method);
    }

    private String text(Tree tree) {
        int end = (int) positions.getEndPosition(unit, tree);
        // The compiler's own constructors have no end.
        return end < 0 ? "" : source.substring((int) positions.getStartPosition(unit, tree), end);
    }

    private static boolean isOwn(String type) {
        return type.startsWith("WindCabinet");
    }

    private static boolean hasWord(String text, String pattern) {
        return Pattern.compile("(?<![\\w.])" + pattern + "(?!\\w)").matcher(text).find();
    }

    // ---- rules 2 and 6: what is not there at all

    @Override
    public Void visitLambdaExpression(LambdaExpressionTree tree, Void none) {
        never(2, tree);
        return super.visitLambdaExpression(tree, none);
    }

    @Override
    public Void visitMemberReference(MemberReferenceTree tree, Void none) {
        never(2, tree);
        return super.visitMemberReference(tree, none);
    }

    @Override
    public Void visitThrow(ThrowTree tree, Void none) {
        never(6, tree);
        return super.visitThrow(tree, none);
    }

    @Override
    public Void visitTry(TryTree tree, Void none) {
        never(6, tree);
        return super.visitTry(tree, none);
    }

    @Override
    public Void visitSynchronized(SynchronizedTree tree, Void none) {
        never(6, tree);
        return super.visitSynchronized(tree, none);
    }

    @Override
    public Void visitAssert(AssertTree tree, Void none) {
        never(6, tree);
        return super.visitAssert(tree, none);
    }

    @Override
    public Void visitTypeCast(TypeCastTree tree, Void none) {
        holds(7, tree, typeOf(tree.getType()).getKind().isPrimitive());
        return super.visitTypeCast(tree, none);
    }

    // ---- rules 2, 3, 5, 11: classes and variables

    @Override
    public Void visitImport(ImportTree tree, Void none) {
        holds(4, tree, LIBRARY.containsKey(tree.getQualifiedIdentifier().toString()) && !tree.isStatic());
        return null;
    }

    @Override
    public Void visitClass(ClassTree tree, Void none) {
        classes++;
        Tree parent = getCurrentPath().getParentPath().getLeaf();
        boolean inside = parent instanceof ClassTree;
        holds(2, tree, inside || parent instanceof CompilationUnitTree);
        holds(2, tree, !inside || tree.getModifiers().getFlags().contains(Modifier.STATIC));
        int fields = 0;
        for (Tree member : tree.getMembers()) {
            boolean own = member instanceof VariableTree field && !field.getModifiers().getFlags().contains(Modifier.STATIC);
            fields += own ? 1 : 0;
        }
        holds(11, tree, fields <= 20);
        return super.visitClass(tree, none);
    }

    @Override
    public Void visitBlock(BlockTree tree, Void none) {
        holds(5, tree, !tree.isStatic());
        return super.visitBlock(tree, none);
    }

    @Override
    public Void visitVariable(VariableTree tree, Void none) {
        Element element = trees.getElement(getCurrentPath());
        TypeMirror type = element.asType();
        holds(3, tree, isType(type));
        if (element.getKind() == ElementKind.FIELD && element.getModifiers().contains(Modifier.STATIC)) {
            boolean array = type.getKind() == TypeKind.ARRAY;
            boolean constant = ((VariableElement) element).getConstantValue() != null;
            holds(5, tree, element.getModifiers().contains(Modifier.FINAL));
            holds(5, tree, array ? tree.getInitializer() instanceof NewArrayTree : constant);
        }
        return super.visitVariable(tree, none);
    }

    private static boolean isType(TypeMirror type) {
        if (type instanceof ArrayType array) {
            return array.getComponentType().getKind().isPrimitive() || isOwn(array.getComponentType().toString());
        }
        return type.getKind().isPrimitive() || isOwn(type.toString()) || type.toString().equals("java.lang.String");
    }

    @Override
    public Void visitIdentifier(IdentifierTree tree, Void none) {
        Element element = trees.getElement(getCurrentPath());
        boolean field = element != null && element.getKind() == ElementKind.FIELD;
        if (field && element.getModifiers().contains(Modifier.STATIC) && element.asType().getKind() == TypeKind.ARRAY) {
            Tree parent = getCurrentPath().getParentPath().getLeaf();
            // Constant rows go nowhere but where they are read.
            holds(5, tree, parent instanceof MethodInvocationTree call && call.getMethodSelect().toString().equals("cell"));
        }
        boolean self = tree.getName().contentEquals("this");
        holds(12, tree, !self || getCurrentPath().getParentPath().getLeaf() instanceof MemberSelectTree);
        return super.visitIdentifier(tree, none);
    }

    // ---- rules 3, 6, 7, 10: what might throw

    @Override
    public Void visitArrayAccess(ArrayAccessTree tree, Void none) {
        String body = methodText();
        String index = Pattern.quote(tree.getIndex().toString());
        String row = Pattern.quote(tree.getExpression().toString()) + "\\.length";
        holds(7, tree, tree.getIndex() instanceof IdentifierTree);
        holds(7, tree, hasWord(body, index + " (<|>=) " + row));
        holds(7, tree, hasWord(body, index + " (>=|<|=) 0"));
        return super.visitArrayAccess(tree, none);
    }

    @Override
    public Void visitBinary(BinaryTree tree, Void none) {
        switch (tree.getKind()) {
            case DIVIDE, REMAINDER -> divides(tree.getRightOperand());
            case PLUS -> holds(10, tree, typeOf(tree).getKind().isPrimitive());
            case EQUAL_TO, NOT_EQUAL_TO -> {
                holds(6, tree, !isText(tree.getLeftOperand()) && !isText(tree.getRightOperand()));
            }
            default -> { }
        }
        return super.visitBinary(tree, none);
    }

    private boolean isText(ExpressionTree tree) {
        String type = typeOf(tree).toString();
        return type.equals("java.lang.String") || type.equals("java.lang.Integer");
    }

    private void divides(ExpressionTree divisor) {
        boolean literal = divisor instanceof LiteralTree number && !number.getValue().equals(0);
        boolean constant = divisor instanceof IdentifierTree && elementOf(divisor) instanceof VariableElement element
                && element.getConstantValue() instanceof Integer number && number != 0;
        boolean product = divisor.toString().equals("(AMOUNTS * AMOUNTS)");
        String name = Pattern.quote(divisor.toString());
        holds(7, divisor, literal || constant || product || hasWord(methodText(), name + " (!=|==|>) 0"));
    }

    @Override
    public Void visitCompoundAssignment(CompoundAssignmentTree tree, Void none) {
        boolean divides = tree.getKind() == Tree.Kind.DIVIDE_ASSIGNMENT || tree.getKind() == Tree.Kind.REMAINDER_ASSIGNMENT;
        holds(7, tree, !divides);
        holds(10, tree, typeOf(tree).getKind().isPrimitive());
        return super.visitCompoundAssignment(tree, none);
    }

    @Override
    public Void visitAssignment(AssignmentTree tree, Void none) {
        // An object that changes hands is kept where the room for it was made.
        boolean object = !typeOf(tree).getKind().isPrimitive();
        holds(12, tree, !object || tree.getVariable() instanceof ArrayAccessTree);
        return super.visitAssignment(tree, none);
    }

    // ---- rule 9: loops

    @Override
    public Void visitForLoop(ForLoopTree tree, Void none) {
        holds(9, tree, tree.getCondition() != null && tree.getUpdate().size() == 1);
        String name = tree.getUpdate().isEmpty() ? "" : tree.getUpdate().get(0).toString().replaceAll("\\W*(\\w+).*;?", "$1");
        String condition = tree.getCondition() == null ? "" : tree.getCondition().toString();
        holds(9, tree, hasWord(condition, Pattern.quote(name) + " (<=|>=|<)"));
        return super.visitForLoop(tree, none);
    }

    @Override
    public Void visitWhileLoop(WhileLoopTree tree, Void none) {
        String condition = tree.getCondition().toString().replaceAll("[()]", " ");
        String body = tree.getStatement().toString();
        String counter = condition.strip().replaceAll("(?s)^(\\w+) <.*", "$1");
        holds(9, tree, hasWord(body, Pattern.quote(counter) + "\\+\\+"));
        return super.visitWhileLoop(tree, none);
    }

    // ---- rules 4, 8, 11: calls

    @Override
    public Void visitMethod(MethodTree tree, Void none) {
        holds(11, tree, tree.getParameters().size() <= 7);
        holds(11, tree, text(tree).split("\n").length <= 60);
        calls.putIfAbsent(trees.getElement(getCurrentPath()), new HashSet<>());
        return super.visitMethod(tree, none);
    }

    @Override
    public Void visitMethodInvocation(MethodInvocationTree tree, Void none) {
        ExecutableElement called = (ExecutableElement) trees.getElement(getCurrentPath());
        String type = called.getEnclosingElement().toString();
        // A constructor's call of the one above it is the compiler's own.
        boolean above = called.getKind() == ElementKind.CONSTRUCTOR && type.equals("java.lang.Object");
        boolean allowed = LIBRARY.getOrDefault(type, Set.of()).contains(called.getSimpleName().toString());
        holds(4, tree, isOwn(type) || above || allowed);
        MethodTree method = method();
        holds(12, tree, method != null);
        if (method != null && isOwn(type)) {
            calls.computeIfAbsent(elementOf(method), key -> new HashSet<>()).add(called);
        }
        return super.visitMethodInvocation(tree, none);
    }

    private void graph() {
        Check.due("some twelve classes", classes <= 12, true);
        Check.due("methods found", calls.size() > 100, true);
        for (Element method : calls.keySet()) {
            Check.due("calls at most eight deep from " + method, depth(method, new ArrayList<>()) <= 8, true);
        }
    }

    private int depth(Element method, List<Element> open) {
        if (open.contains(method)) {
            Check.due("no recursion of " + method + " in " + open, false, true);
            return 0;
        }
        open.add(method);
        int deepest = 0;
        for (Element called : calls.getOrDefault(method, Set.of())) {
            deepest = Math.max(deepest, depth(called, open));
        }
        open.remove(method);
        return deepest + 1;
    }

    // ---- rule 12: objects

    @Override
    public Void visitNewClass(NewClassTree tree, Void none) {
        holds(2, tree, tree.getClassBody() == null);
        holds(12, tree, tree.getArguments().isEmpty() && isOwn(typeOf(tree).toString()));
        holds(12, tree, isMaker());
        return super.visitNewClass(tree, none);
    }

    @Override
    public Void visitNewArray(NewArrayTree tree, Void none) {
        holds(12, tree, method() == null && tree.getDimensions().size() <= 1);
        return super.visitNewArray(tree, none);
    }

    @Override
    public Void visitArrayType(ArrayTypeTree tree, Void none) {
        holds(3, tree, !(tree.getType() instanceof ArrayTypeTree));
        return super.visitArrayType(tree, none);
    }

    private boolean isMaker() {
        MethodTree method = method();
        return method == null || method.getReturnType() == null || MAKERS.contains(method.getName().toString());
    }
}
