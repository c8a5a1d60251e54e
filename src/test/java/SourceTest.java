import com.sun.source.tree.ArrayAccessTree;
import com.sun.source.tree.BinaryTree;
import com.sun.source.tree.ClassTree;
import com.sun.source.tree.CompilationUnitTree;
import com.sun.source.tree.CompoundAssignmentTree;
import com.sun.source.tree.ConditionalExpressionTree;
import com.sun.source.tree.DoWhileLoopTree;
import com.sun.source.tree.ExpressionTree;
import com.sun.source.tree.ForLoopTree;
import com.sun.source.tree.LambdaExpressionTree;
import com.sun.source.tree.MemberReferenceTree;
import com.sun.source.tree.MethodInvocationTree;
import com.sun.source.tree.MethodTree;
import com.sun.source.tree.NewClassTree;
import com.sun.source.tree.ThrowTree;
import com.sun.source.tree.Tree;
import com.sun.source.tree.TryTree;
import com.sun.source.tree.TypeCastTree;
import com.sun.source.tree.VariableTree;
import com.sun.source.tree.WhileLoopTree;
import com.sun.source.util.JavacTask;
import com.sun.source.util.TreePath;
import com.sun.source.util.TreePathScanner;
import com.sun.source.util.Trees;
import java.nio.file.Path;
import java.util.List;
import java.util.Map;
import java.util.Set;
import java.util.TreeMap;
import java.util.TreeSet;
import javax.lang.model.element.Element;
import javax.lang.model.element.ElementKind;
import javax.lang.model.element.Modifier;
import javax.lang.model.element.VariableElement;
import javax.lang.model.type.ArrayType;
import javax.lang.model.type.TypeKind;
import javax.lang.model.type.TypeMirror;
import javax.tools.JavaCompiler;
import javax.tools.JavaFileObject;
import javax.tools.StandardJavaFileManager;
import javax.tools.ToolProvider;

/** The rules of LANGUAGE.md that need the source as javac reads it: what is called, how deep, what is made, read, divided. */
public final class SourceTest extends TreePathScanner<Void, Void> {
    private static final Path SOURCE = Path.of("src/main/java/GrowingText.java");
    private static final String OWN = "GrowingText";
    private static final int MOST_DEPTH = 8, MOST_LINES = 60, MOST_PARAMETERS = 7, MOST_FIELDS = 20, MOST_CLASSES = 12;
    /** All that is used of what rule 4 lists. */
    private static final Set<String> LIBRARY = Set.of(
        "java.lang.Long.bitCount(long)", "java.lang.Math.max(int,int)", "java.lang.Math.min(int,int)");
    /** The places that read rows of objects: each looks at the place, and at what it finds there. */
    private static final Set<String> READERS = Set.of("pageAt", "imageAt", "sheetsThere", "<init>");

    private final CompilationUnitTree unit;
    private final Trees trees;
    private final Map<String, Set<String>> calls = new TreeMap<>();
    private final Map<String, Integer> depths = new TreeMap<>();
    private int classes = 0;
    private int wrong = 0;

    private SourceTest(CompilationUnitTree unit, Trees trees) {
        this.unit = unit;
        this.trees = trees;
    }

    public static void main(String[] args) throws Exception {
        JavaCompiler compiler = ToolProvider.getSystemJavaCompiler();
        try (StandardJavaFileManager files = compiler.getStandardFileManager(null, null, null)) {
            Iterable<? extends JavaFileObject> source = files.getJavaFileObjects(SOURCE);
            JavacTask task = (JavacTask) compiler.getTask(null, files, null, List.of("-proc:none"), null, source);
            CompilationUnitTree unit = task.parse().iterator().next();
            task.analyze();
            new SourceTest(unit, Trees.instance(task)).checkAll();
        }
    }

    private void checkAll() {
        scan(unit, null);
        check(unit.getPackageName() == null && unit.getImports().isEmpty(), unit, "rule 4: a package or an import");
        check(classes <= MOST_CLASSES, unit, "rule 11: " + classes + " classes");
        check(calls.size() > 40, unit, "too few methods were seen: " + calls.keySet());
        int deepest = 0;
        for (String method : calls.keySet()) deepest = Math.max(deepest, depthOf(method, new TreeSet<>()));
        check(deepest <= MOST_DEPTH, unit, "rule 11: calls go " + deepest + " deep");
        System.out.println("SourceTest: " + calls.size() + " methods, " + deepest + " deep, " + wrong + " faults");
        if (wrong != 0) System.exit(1);
    }

    private void check(boolean holds, Tree where, String what) {
        if (holds) return;
        wrong++;
        long line = unit.getLineMap().getLineNumber(trees.getSourcePositions().getStartPosition(unit, where));
        System.out.println("line " + line + ": " + what);
    }

    /** How many calls stand open at once at the most, this one too. */
    private int depthOf(String method, Set<String> open) {
        if (depths.containsKey(method)) return depths.get(method);
        open.add(method);
        int deepest = 0;
        for (String called : calls.getOrDefault(method, Set.of())) {
            check(!open.contains(called), unit, "rule 8: " + method + " leads back to " + called);
            if (!open.contains(called)) deepest = Math.max(deepest, depthOf(called, open));
        }
        open.remove(method);
        depths.put(method, deepest + 1);
        return deepest + 1;
    }

    private String nameOf(Element method) {
        return method.getEnclosingElement() + "." + method;
    }

    private TreePath methodAround() {
        TreePath at = getCurrentPath();
        while (at != null && !(at.getLeaf() instanceof MethodTree)) at = at.getParentPath();
        return at;
    }

    private void called(Element method, Tree where) {
        if (method == null) return;
        String name = nameOf(method);
        if (name.equals("java.lang.Object.Object()")) return;
        if (!name.startsWith(OWN)) check(LIBRARY.contains(name), where, "rule 4: " + name);
        TreePath around = methodAround();
        if (around != null) calls.get(nameOf(trees.getElement(around))).add(name);
    }

    @Override
    public Void visitClass(ClassTree node, Void none) {
        classes++;
        Element type = trees.getElement(getCurrentPath());
        boolean outer = type.getSimpleName().contentEquals(OWN);
        check(methodAround() == null, node, "rule 2: a class in a method");
        check(outer || type.getModifiers().contains(Modifier.STATIC), node, "rule 2: a class inside that is not static");
        int fields = 0;
        for (Element member : type.getEnclosedElements()) {
            if (member.getKind() == ElementKind.FIELD && !member.getModifiers().contains(Modifier.STATIC)) fields++;
        }
        check(fields <= MOST_FIELDS, node, "rule 11: " + fields + " fields");
        return super.visitClass(node, none);
    }

    @Override
    public Void visitMethod(MethodTree node, Void none) {
        calls.put(nameOf(trees.getElement(getCurrentPath())), new TreeSet<>());
        check(node.getParameters().size() <= MOST_PARAMETERS, node, "rule 11: " + node.getName() + " takes too many numbers");
        long from = trees.getSourcePositions().getStartPosition(unit, node);
        long to = trees.getSourcePositions().getEndPosition(unit, node);
        long lines = unit.getLineMap().getLineNumber(to) - unit.getLineMap().getLineNumber(from) + 1;
        check(lines <= MOST_LINES, node, "rule 11: " + node.getName() + " has " + lines + " lines");
        return super.visitMethod(node, none);
    }

    @Override
    public Void visitVariable(VariableTree node, Void none) {
        VariableElement variable = (VariableElement) trees.getElement(getCurrentPath());
        check(isTaken(variable.asType()), node, "rule 3: " + variable.asType());
        if (variable.getModifiers().contains(Modifier.STATIC)) {
            boolean constant = variable.getModifiers().contains(Modifier.FINAL) && variable.getConstantValue() != null;
            check(constant, node, "rule 5: " + node.getName() + " is no constant");
        }
        return super.visitVariable(node, none);
    }

    /** Numbers, own classes, and rows of these of one dimension. */
    private static boolean isTaken(TypeMirror type) {
        if (type.getKind() == TypeKind.ARRAY) {
            TypeMirror inside = ((ArrayType) type).getComponentType();
            return inside.getKind() != TypeKind.ARRAY && isTaken(inside);
        }
        if (type.getKind() == TypeKind.DECLARED) return type.toString().startsWith(OWN);
        return Set.of(TypeKind.INT, TypeKind.LONG, TypeKind.BOOLEAN).contains(type.getKind());
    }

    @Override
    public Void visitMethodInvocation(MethodInvocationTree node, Void none) {
        called(trees.getElement(getCurrentPath()), node);
        return super.visitMethodInvocation(node, none);
    }

    @Override
    public Void visitNewClass(NewClassTree node, Void none) {
        check(node.getClassBody() == null, node, "rule 2: a class without a name");
        called(trees.getElement(getCurrentPath()), node);
        return super.visitNewClass(node, none);
    }

    @Override
    public Void visitArrayAccess(ArrayAccessTree node, Void none) {
        Element method = trees.getElement(methodAround());
        boolean guarded = method.getEnclosingElement().getSimpleName().contentEquals("Rows")
            || READERS.contains(method.getSimpleName().toString());
        check(guarded, node, "rule 7: a row is read past Rows, in " + nameOf(method));
        return super.visitArrayAccess(node, none);
    }

    @Override
    public Void visitBinary(BinaryTree node, Void none) {
        boolean divides = node.getKind() == Tree.Kind.DIVIDE || node.getKind() == Tree.Kind.REMAINDER;
        if (divides) check(isLookedAt(node.getRightOperand()), node, "rule 7: a divisor is not looked at: " + node);
        return super.visitBinary(node, none);
    }

    /** A constant that is not 0, or what the ?: around it finds to be above 0. */
    private boolean isLookedAt(ExpressionTree divisor) {
        Element element = trees.getElement(new TreePath(getCurrentPath(), divisor));
        if (divisor.getKind() == Tree.Kind.INT_LITERAL) return !divisor.toString().equals("0");
        boolean constant = element instanceof VariableElement v && v.getConstantValue() != null;
        if (constant) return ((Number) ((VariableElement) element).getConstantValue()).longValue() != 0;
        for (TreePath at = getCurrentPath(); at != null; at = at.getParentPath()) {
            boolean asked = at.getLeaf() instanceof ConditionalExpressionTree c
                && c.getCondition().toString().equals(divisor + " > 0");
            if (asked) return true;
        }
        return false;
    }

    @Override
    public Void visitCompoundAssignment(CompoundAssignmentTree node, Void none) {
        boolean divides = Set.of(Tree.Kind.DIVIDE_ASSIGNMENT, Tree.Kind.REMAINDER_ASSIGNMENT).contains(node.getKind());
        check(!divides, node, "rule 7: a divisor is not looked at: " + node);
        return super.visitCompoundAssignment(node, none);
    }

    @Override
    public Void visitTypeCast(TypeCastTree node, Void none) {
        check(node.getType().getKind() == Tree.Kind.PRIMITIVE_TYPE, node, "rule 6: a cast to " + node.getType());
        return super.visitTypeCast(node, none);
    }

    @Override
    public Void visitForLoop(ForLoopTree node, Void none) {
        check(node.getCondition() != null && node.getUpdate().size() == 1, node, "rule 9: a loop without a counter or a bound");
        return super.visitForLoop(node, none);
    }

    @Override
    public Void visitWhileLoop(WhileLoopTree node, Void none) {
        check(node.getCondition().toString().matches("\\(\\w+ < .*"), node, "rule 9: a loop without a bound");
        return super.visitWhileLoop(node, none);
    }

    @Override
    public Void visitDoWhileLoop(DoWhileLoopTree node, Void none) {
        check(false, node, "rule 9: a loop whose bound this test does not know");
        return super.visitDoWhileLoop(node, none);
    }

    @Override
    public Void visitThrow(ThrowTree node, Void none) {
        check(false, node, "rule 6: throw");
        return super.visitThrow(node, none);
    }

    @Override
    public Void visitTry(TryTree node, Void none) {
        check(false, node, "rule 6: try");
        return super.visitTry(node, none);
    }

    @Override
    public Void visitLambdaExpression(LambdaExpressionTree node, Void none) {
        check(false, node, "rule 2: a lambda");
        return super.visitLambdaExpression(node, none);
    }

    @Override
    public Void visitMemberReference(MemberReferenceTree node, Void none) {
        check(false, node, "rule 2: a method reference");
        return super.visitMemberReference(node, none);
    }
}
