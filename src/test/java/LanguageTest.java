import com.sun.source.tree.ArrayTypeTree;
import com.sun.source.tree.AssertTree;
import com.sun.source.tree.BinaryTree;
import com.sun.source.tree.BlockTree;
import com.sun.source.tree.ClassTree;
import com.sun.source.tree.CompilationUnitTree;
import com.sun.source.tree.CompoundAssignmentTree;
import com.sun.source.tree.ConditionalExpressionTree;
import com.sun.source.tree.DoWhileLoopTree;
import com.sun.source.tree.ExpressionTree;
import com.sun.source.tree.ForLoopTree;
import com.sun.source.tree.ImportTree;
import com.sun.source.tree.InstanceOfTree;
import com.sun.source.tree.LambdaExpressionTree;
import com.sun.source.tree.LiteralTree;
import com.sun.source.tree.MemberReferenceTree;
import com.sun.source.tree.MethodInvocationTree;
import com.sun.source.tree.MethodTree;
import com.sun.source.tree.NewArrayTree;
import com.sun.source.tree.NewClassTree;
import com.sun.source.tree.SynchronizedTree;
import com.sun.source.tree.ThrowTree;
import com.sun.source.tree.Tree;
import com.sun.source.tree.TryTree;
import com.sun.source.tree.TypeCastTree;
import com.sun.source.tree.VariableTree;
import com.sun.source.tree.WhileLoopTree;
import com.sun.source.util.JavacTask;
import com.sun.source.util.SourcePositions;
import com.sun.source.util.TreePath;
import com.sun.source.util.TreePathScanner;
import com.sun.source.util.Trees;
import java.io.IOException;
import java.nio.file.Files;
import java.nio.file.Path;
import java.util.HashSet;
import java.util.LinkedHashMap;
import java.util.List;
import java.util.Map;
import java.util.Set;
import java.util.TreeSet;
import javax.lang.model.element.Element;
import javax.lang.model.element.ElementKind;
import javax.lang.model.element.Modifier;
import javax.lang.model.element.VariableElement;
import javax.lang.model.type.ArrayType;
import javax.lang.model.type.TypeKind;
import javax.lang.model.type.TypeMirror;
import javax.tools.JavaCompiler;
import javax.tools.StandardJavaFileManager;
import javax.tools.ToolProvider;

/**
 * LANGUAGE.md, rule by rule, by the compiler's tree of the file. Where the class keeps to less than a rule allows
 * (no recursion, nothing made by a call), the test holds it to that. FaceTest has the public face.
 */
public final class LanguageTest extends TreePathScanner<Void, Void> {
    private static final Check CHECK = new Check();
    private static final Path FILE = Path.of("src/main/java/WeddingReasons.java");
    private static final Set<String> LIBRARY = Set.of("java.util.Arrays.fill", "java.lang.System.arraycopy",
            "java.lang.Math.min", "java.lang.Math.max", "java.lang.Integer.bitCount");
    private static final Set<String> IMPORTS = Set.of("java.util.Arrays", "java.util.ArrayList", "java.util.List");
    private static final Set<TypeKind> NUMBERS = Set.of(TypeKind.INT, TypeKind.LONG, TypeKind.BOOLEAN, TypeKind.CHAR,
            TypeKind.SHORT, TypeKind.BYTE);

    private final Trees trees;
    private final CompilationUnitTree unit;
    private final SourcePositions places;
    /** Who calls whom, within the file. */
    private final Map<Element, Set<Element>> calls = new LinkedHashMap<>();
    private final Set<String> publicNames = new TreeSet<>();
    private int classes = 0;

    private LanguageTest(Trees trees, CompilationUnitTree unit) {
        this.trees = trees;
        this.unit = unit;
        this.places = trees.getSourcePositions();
    }

    public static void main(String[] args) throws IOException {
        signs(Files.readString(FILE));
        JavaCompiler compiler = ToolProvider.getSystemJavaCompiler();
        try (StandardJavaFileManager files = compiler.getStandardFileManager(null, null, null)) {
            List<String> options = List.of("--release", "17", "-proc:none");
            JavacTask task = (JavacTask) compiler.getTask(null, files, null, options, null, files.getJavaFileObjects(FILE));
            CompilationUnitTree unit = task.parse().iterator().next();
            task.analyze();
            LanguageTest look = new LanguageTest(Trees.instance(task), unit);
            look.namePublicMethods();
            look.scan(unit, null);
            look.whole();
        }
        CHECK.end();
    }

    /** Rule 4: signs of texts are 1 to 127; the whole file keeps to that. */
    private static void signs(String source) {
        CHECK.due("signs 1 to 127", source.chars().allMatch(sign -> sign > 0 && sign < 128) ? 1 : 0, 1);
        CHECK.due("no hidden signs by number", source.contains("\\u") ? 1 : 0, 0);
    }

    private void namePublicMethods() {
        for (Tree type : unit.getTypeDecls()) {
            for (Tree member : ((ClassTree) type).getMembers()) {
                if (member instanceof MethodTree method && method.getModifiers().getFlags().contains(Modifier.PUBLIC)) {
                    publicNames.add(method.getName().toString());
                }
            }
        }
    }

    private void rule(int rule, Tree tree, boolean kept) {
        long line = unit.getLineMap().getLineNumber(places.getStartPosition(unit, tree));
        CHECK.due("rule " + rule + ", line " + line, kept ? 1 : 0, 1);
    }

    private void whole() {
        CHECK.due("rule 1: one public class, no package", unit.getTypeDecls().size() == 1 && unit.getPackageName() == null ? 1 : 0, 1);
        CHECK.due("rule 11: " + classes + " classes", classes <= 12 ? 1 : 0, 1);
        for (Element method : calls.keySet()) {
            int deep = depth(method, new HashSet<>());
            CHECK.due("rules 8, 11: " + method + " goes " + deep + " deep", deep >= 1 && deep <= 8 ? 1 : 0, 1);
        }
    }

    /** 99 and more: a method comes to itself. */
    private int depth(Element method, Set<Element> open) {
        if (!open.add(method)) {
            return 99;
        }
        int deepest = 0;
        for (Element callee : calls.getOrDefault(method, Set.of())) {
            deepest = Math.max(deepest, depth(callee, open));
        }
        open.remove(method);
        return deepest + 1;
    }

    private TypeMirror type(Tree tree) {
        return trees.getTypeMirror(new TreePath(getCurrentPath(), tree));
    }

    /** The method around, or null for a field's first value. */
    private MethodTree methodAround() {
        for (TreePath path = getCurrentPath(); path != null; path = path.getParentPath()) {
            if (path.getLeaf() instanceof MethodTree method) {
                return method;
            }
        }
        return null;
    }

    private static boolean isOwn(Element element) {
        for (Element around = element; around != null; around = around.getEnclosingElement()) {
            if (around.toString().equals("WeddingReasons")) {
                return true;
            }
        }
        return false;
    }

    /** Rule 3, without what the class does not use: doubles, lists, arrays of objects. */
    private static boolean isFineType(TypeMirror type, int dimensions) {
        if (type.getKind() == TypeKind.ARRAY) {
            return dimensions < 2 && isFineType(((ArrayType) type).getComponentType(), dimensions + 1);
        }
        if (NUMBERS.contains(type.getKind()) || type.getKind() == TypeKind.VOID) {
            return true;
        }
        return dimensions == 0 && (type.toString().equals("java.lang.String") || type.toString().startsWith("WeddingReasons"));
    }

    @Override
    public Void visitImport(ImportTree tree, Void nothing) {
        rule(4, tree, !tree.isStatic() && IMPORTS.contains(tree.getQualifiedIdentifier().toString()));
        return null;
    }

    @Override
    public Void visitClass(ClassTree tree, Void nothing) {
        classes++;
        Set<Modifier> flags = tree.getModifiers().getFlags();
        Tree around = getCurrentPath().getParentPath().getLeaf();
        boolean outer = around instanceof CompilationUnitTree;
        rule(2, tree, outer || around instanceof ClassTree && flags.contains(Modifier.STATIC));
        rule(1, tree, outer || !flags.contains(Modifier.PUBLIC) && !flags.contains(Modifier.PROTECTED));
        rule(2, tree, tree.getKind() == Tree.Kind.CLASS && tree.getExtendsClause() == null && tree.getImplementsClause().isEmpty());
        int fields = 0;
        for (Tree member : tree.getMembers()) {
            boolean still = member instanceof VariableTree field && field.getModifiers().getFlags().contains(Modifier.STATIC);
            fields += member instanceof VariableTree && !still ? 1 : 0;
            rule(5, member, !(member instanceof BlockTree));
        }
        rule(11, tree, fields <= 20);
        return super.visitClass(tree, nothing);
    }

    @Override
    public Void visitVariable(VariableTree tree, Void nothing) {
        Element variable = trees.getElement(getCurrentPath());
        rule(3, tree, isFineType(variable.asType(), 0));
        if (variable.getKind() == ElementKind.FIELD && variable.getModifiers().contains(Modifier.STATIC)) {
            rule(5, tree, variable.getModifiers().contains(Modifier.FINAL));
            rule(5, tree, ((VariableElement) variable).getConstantValue() != null);
        }
        return super.visitVariable(tree, nothing);
    }

    @Override
    public Void visitMethod(MethodTree tree, Void nothing) {
        Element method = trees.getElement(getCurrentPath());
        boolean made = method.getKind() == ElementKind.CONSTRUCTOR;
        boolean open = method.getModifiers().contains(Modifier.PUBLIC);
        calls.computeIfAbsent(method, key -> new HashSet<>());
        if (!made) {
            rule(3, tree, isFineType(trees.getTypeMirror(new TreePath(getCurrentPath(), tree.getReturnType())), 0));
            rule(1, tree, open || !publicNames.contains(tree.getName().toString()));
        }
        rule(6, tree, tree.getThrows().isEmpty());
        rule(6, tree, !Set.of("equals", "hashCode", "toString").contains(tree.getName().toString()));
        rule(11, tree, tree.getParameters().size() <= 7);
        if (places.getStartPosition(unit, tree) >= 0 && places.getEndPosition(unit, tree) >= 0) {
            long from = unit.getLineMap().getLineNumber(places.getStartPosition(unit, tree));
            long to = unit.getLineMap().getLineNumber(places.getEndPosition(unit, tree));
            rule(11, tree, to - from + 1 <= 60);
        }
        return super.visitMethod(tree, nothing);
    }

    @Override
    public Void visitMethodInvocation(MethodInvocationTree tree, Void nothing) {
        Element callee = trees.getElement(getCurrentPath());
        MethodTree around = methodAround();
        boolean made = around != null && around.getReturnType() == null;
        boolean above = tree.getMethodSelect().toString().equals("super");
        rule(12, tree, above || !made && around != null);
        if (isOwn(callee)) {
            Element caller = trees.getElement(trees.getPath(unit, around));
            calls.computeIfAbsent(caller, key -> new HashSet<>()).add(callee);
        } else if (!above) {
            String name = callee.getEnclosingElement() + "." + callee.getSimpleName();
            CHECK.due("rule 4: " + name, LIBRARY.contains(name) ? 1 : 0, 1);
        }
        return super.visitMethodInvocation(tree, nothing);
    }

    @Override
    public Void visitNewClass(NewClassTree tree, Void nothing) {
        rule(2, tree, tree.getClassBody() == null);
        rule(12, tree, methodAround() == null && isOwn(trees.getElement(getCurrentPath())));
        return super.visitNewClass(tree, nothing);
    }

    @Override
    public Void visitNewArray(NewArrayTree tree, Void nothing) {
        rule(12, tree, methodAround() == null);
        return super.visitNewArray(tree, nothing);
    }

    @Override
    public Void visitArrayType(ArrayTypeTree tree, Void nothing) {
        rule(3, tree, isFineType(trees.getTypeMirror(getCurrentPath()), 0));
        return super.visitArrayType(tree, nothing);
    }

    @Override
    public Void visitBinary(BinaryTree tree, Void nothing) {
        TypeMirror left = type(tree.getLeftOperand());
        TypeMirror right = type(tree.getRightOperand());
        rule(6, tree, left.getKind().isPrimitive() && right.getKind().isPrimitive());
        if (tree.getKind() == Tree.Kind.DIVIDE || tree.getKind() == Tree.Kind.REMAINDER) {
            rule(7, tree, isSafeDivisor(tree.getRightOperand()));
        }
        return super.visitBinary(tree, nothing);
    }

    @Override
    public Void visitCompoundAssignment(CompoundAssignmentTree tree, Void nothing) {
        boolean divides = tree.getKind() == Tree.Kind.DIVIDE_ASSIGNMENT || tree.getKind() == Tree.Kind.REMAINDER_ASSIGNMENT;
        rule(7, tree, !divides && type(tree.getVariable()).getKind().isPrimitive());
        return super.visitCompoundAssignment(tree, nothing);
    }

    /** A number above 0, a constant, or what a '?' around it has found to be above 0. */
    private boolean isSafeDivisor(ExpressionTree divisor) {
        if (divisor instanceof LiteralTree) {
            return !divisor.toString().startsWith("0");
        }
        Element named = trees.getElement(new TreePath(getCurrentPath(), divisor));
        if (named instanceof VariableElement constant && constant.getConstantValue() instanceof Integer value) {
            return value > 0;
        }
        Tree below = null;
        for (TreePath path = getCurrentPath(); path != null; path = path.getParentPath()) {
            if (path.getLeaf() instanceof ConditionalExpressionTree choice && choice.getTrueExpression() == below) {
                return choice.getCondition().toString().equals("(" + divisor + " > 0)")
                        || choice.getCondition().toString().equals(divisor + " > 0");
            }
            below = path.getLeaf();
        }
        return false;
    }

    @Override
    public Void visitTypeCast(TypeCastTree tree, Void nothing) {
        rule(6, tree, type(tree.getType()).getKind().isPrimitive() && type(tree.getExpression()).getKind().isPrimitive());
        return super.visitTypeCast(tree, nothing);
    }

    @Override
    public Void visitForLoop(ForLoopTree tree, Void nothing) {
        rule(9, tree, tree.getCondition() != null && tree.getUpdate().size() == 1);
        return super.visitForLoop(tree, nothing);
    }

    @Override
    public Void visitWhileLoop(WhileLoopTree tree, Void nothing) {
        rule(9, tree, tree.getCondition().toString().contains(" < "));
        return super.visitWhileLoop(tree, nothing);
    }

    @Override
    public Void visitDoWhileLoop(DoWhileLoopTree tree, Void nothing) {
        rule(9, tree, tree.getCondition().toString().contains(" < "));
        return super.visitDoWhileLoop(tree, nothing);
    }

    private Void ruledOut(int rule, Tree tree) {
        rule(rule, tree, false);
        return null;
    }

    @Override
    public Void visitLambdaExpression(LambdaExpressionTree tree, Void nothing) {
        return ruledOut(2, tree);
    }

    @Override
    public Void visitMemberReference(MemberReferenceTree tree, Void nothing) {
        return ruledOut(2, tree);
    }

    @Override
    public Void visitThrow(ThrowTree tree, Void nothing) {
        return ruledOut(6, tree);
    }

    @Override
    public Void visitTry(TryTree tree, Void nothing) {
        return ruledOut(6, tree);
    }

    @Override
    public Void visitSynchronized(SynchronizedTree tree, Void nothing) {
        return ruledOut(6, tree);
    }

    @Override
    public Void visitAssert(AssertTree tree, Void nothing) {
        return ruledOut(6, tree);
    }

    @Override
    public Void visitInstanceOf(InstanceOfTree tree, Void nothing) {
        return ruledOut(6, tree);
    }
}
