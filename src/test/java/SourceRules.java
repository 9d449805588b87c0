import com.sun.source.tree.*;
import com.sun.source.util.JavacTask;
import com.sun.source.util.TreePath;
import com.sun.source.util.TreePathScanner;
import com.sun.source.util.Trees;
import java.util.ArrayList;
import java.util.LinkedHashMap;
import java.util.LinkedHashSet;
import java.util.List;
import java.util.Map;
import java.util.Set;
import java.util.TreeSet;
import javax.lang.model.element.Element;
import javax.lang.model.element.ElementKind;
import javax.lang.model.element.ExecutableElement;
import javax.lang.model.element.Modifier;
import javax.lang.model.element.TypeElement;
import javax.lang.model.element.VariableElement;
import javax.lang.model.type.ArrayType;
import javax.lang.model.type.TypeKind;
import javax.lang.model.type.TypeMirror;

/**
 * Walks over the class and notes what breaks LANGUAGE.md. Where a rule leaves several ways it holds the narrower one
 * that the class has taken: no texts and lists, no while, rows made in constructors alone, a depth in each recursion.
 */
final class SourceRules extends TreePathScanner<Void, Void> {
    private static final String CLASS = "FerryPlans";
    private static final Set<String> LIBRARY = Set.of(
        "java.util.Arrays.fill", "java.lang.System.arraycopy", "java.lang.Integer.bitCount", "java.lang.Math.max",
        "java.lang.Math.min");
    private static final int DEPTH_MOST = 8;
    private static final int CLASSES_MOST = 12;
    private static final int FIELDS_MOST = 20;
    private static final int PARAMETERS_MOST = 7;
    private static final int LINES_MOST = 60;

    private final CompilationUnitTree unit;
    private final Trees trees;
    private final List<String> broken = new ArrayList<>();
    private final Map<String, Set<String>> calls = new LinkedHashMap<>();
    private final Set<String> carriesDepth = new TreeSet<>();
    private int classes = 0;

    SourceRules(JavacTask task, CompilationUnitTree unit) {
        this.unit = unit;
        this.trees = Trees.instance(task);
    }

    List<String> broken() {
        scan(unit, null);
        if (classes > CLASSES_MOST) broken.add("rule 11: " + classes + " classes");
        for (String method : calls.keySet()) {
            if (reaches(method, method, new TreeSet<>()) && !carriesDepth.contains(method)) {
                broken.add("rule 8: " + method + " calls itself and carries no depth");
            }
            List<String> chain = longest(method, new LinkedHashSet<>());
            if (chain.size() > DEPTH_MOST) broken.add("rule 11: a chain of " + chain.size() + " calls: " + chain);
        }
        return broken;
    }

    private void breaks(int rule, String what, Tree at) {
        long place = trees.getSourcePositions().getStartPosition(unit, at);
        broken.add("rule " + rule + ": " + what + ", line " + unit.getLineMap().getLineNumber(place));
    }

    private Element elementOf(Tree tree) {
        return trees.getElement(new TreePath(getCurrentPath(), tree));
    }

    private static boolean isOwn(Element element) {
        Element at = element;
        while (at != null && !(at.getKind().isClass() && at.getEnclosingElement().getKind() == ElementKind.PACKAGE)) {
            at = at.getEnclosingElement();
        }
        return at != null && at.getSimpleName().contentEquals(CLASS);
    }

    private static String nameOf(Element method) {
        TypeElement type = (TypeElement) method.getEnclosingElement();
        return type.getQualifiedName() + "." + method.getSimpleName();
    }

    /** The method around a place; null in a field's first value. */
    private MethodTree methodAround() {
        for (TreePath at = getCurrentPath(); at != null; at = at.getParentPath()) {
            if (at.getLeaf() instanceof MethodTree method) return method;
            if (at.getLeaf() instanceof ClassTree) return null;
        }
        return null;
    }

    // Rules 1, 2 and 11: the classes and their fields.

    @Override
    public Void visitClass(ClassTree tree, Void nothing) {
        classes++;
        Tree around = getCurrentPath().getParentPath().getLeaf();
        Set<Modifier> flags = tree.getModifiers().getFlags();
        if (around instanceof ClassTree) {
            if (tree.getKind() == Tree.Kind.CLASS && !flags.contains(Modifier.STATIC)) breaks(2, "a class that is not static", tree);
            if (flags.contains(Modifier.PUBLIC) || flags.contains(Modifier.PROTECTED)) breaks(1, "a class that is seen", tree);
        } else if (!(around instanceof CompilationUnitTree)) {
            breaks(2, "a local or nameless class", tree);
        }
        int fields = 0;
        for (Tree member : tree.getMembers()) {
            if (member instanceof BlockTree) breaks(5, "a block of first values", member);
            if (member instanceof VariableTree v && !v.getModifiers().getFlags().contains(Modifier.STATIC)) fields++;
            if (around instanceof CompilationUnitTree) face(member);
        }
        if (fields > FIELDS_MOST) breaks(11, fields + " fields", tree);
        return super.visitClass(tree, nothing);
    }

    private void face(Tree member) {
        if (member instanceof VariableTree field) {
            if (!field.getModifiers().getFlags().contains(Modifier.PRIVATE)) breaks(1, "a field that is not private", member);
        } else if (member instanceof MethodTree method) {
            Set<Modifier> flags = method.getModifiers().getFlags();
            if (!flags.contains(Modifier.PRIVATE) && !flags.contains(Modifier.PUBLIC)) breaks(1, "a method that is seen", member);
        }
    }

    @Override
    public Void visitLambdaExpression(LambdaExpressionTree tree, Void nothing) {
        breaks(2, "a lambda", tree);
        return super.visitLambdaExpression(tree, nothing);
    }

    @Override
    public Void visitMemberReference(MemberReferenceTree tree, Void nothing) {
        breaks(2, "a method reference", tree);
        return super.visitMemberReference(tree, nothing);
    }

    // Rules 3 and 5: types, and what is static.

    @Override
    public Void visitVariable(VariableTree tree, Void nothing) {
        VariableElement element = (VariableElement) trees.getElement(getCurrentPath());
        if (element != null && !isAllowed(element.asType())) breaks(3, "the type " + element.asType(), tree);
        if (element != null && element.getKind() == ElementKind.FIELD && element.getModifiers().contains(Modifier.STATIC)) {
            boolean written = tree.getInitializer() instanceof NewArrayTree row && row.getInitializers() != null;
            if (!element.getModifiers().contains(Modifier.FINAL)) breaks(5, "a static field that is not final", tree);
            if (element.getConstantValue() == null && !written) breaks(5, "a static field that is no constant", tree);
        }
        return super.visitVariable(tree, nothing);
    }

    private static boolean isAllowed(TypeMirror type) {
        TypeMirror of = type;
        int dimensions = 0;
        while (of instanceof ArrayType row && dimensions < 3) {
            of = row.getComponentType();
            dimensions++;
        }
        if (of.getKind().isPrimitive()) return dimensions <= 2 && of.getKind() != TypeKind.DOUBLE && of.getKind() != TypeKind.FLOAT;
        return dimensions <= 1 && of.toString().startsWith(CLASS);
    }

    private void changed(ExpressionTree what, Tree at) {
        if (!(what instanceof ArrayAccessTree row)) return;
        Element of = elementOf(row.getExpression());
        if (of != null && of.getModifiers().contains(Modifier.STATIC)) breaks(5, "a static row is changed", at);
    }

    @Override
    public Void visitAssignment(AssignmentTree tree, Void nothing) {
        changed(tree.getVariable(), tree);
        return super.visitAssignment(tree, nothing);
    }

    @Override
    public Void visitUnary(UnaryTree tree, Void nothing) {
        switch (tree.getKind()) {
            case POSTFIX_INCREMENT: case POSTFIX_DECREMENT: case PREFIX_INCREMENT: case PREFIX_DECREMENT:
                changed(tree.getExpression(), tree);
                break;
            default:
                break;
        }
        return super.visitUnary(tree, nothing);
    }

    // Rules 4, 8, 11 and 12: what is called, and where something is made.

    @Override
    public Void visitMethodInvocation(MethodInvocationTree tree, Void nothing) {
        Element called = elementOf(tree.getMethodSelect());
        MethodTree around = methodAround();
        if (called instanceof ExecutableElement && called.getKind() == ElementKind.METHOD) {
            String name = nameOf(called);
            if (!isOwn(called) && !LIBRARY.contains(name)) breaks(4, name, tree);
            if (around != null) callsOf(around).add(name);
            if (around != null && around.getReturnType() == null) breaks(12, "a constructor calls " + name + " here", tree);
        }
        return super.visitMethodInvocation(tree, nothing);
    }

    private Set<String> callsOf(MethodTree method) {
        Element element = trees.getElement(trees.getPath(unit, method));
        return calls.computeIfAbsent(element == null ? "?" : nameOf(element), name -> new LinkedHashSet<>());
    }

    private boolean reaches(String from, String wanted, Set<String> seen) {
        for (String next : calls.getOrDefault(from, Set.of())) {
            if (next.equals(wanted) || seen.add(next) && reaches(next, wanted, seen)) return true;
        }
        return false;
    }

    /** The longest chain of calls without one twice. */
    private List<String> longest(String method, Set<String> open) {
        open.add(method);
        List<String> best = List.of();
        for (String next : calls.getOrDefault(method, Set.of())) {
            if (open.contains(next)) continue;
            List<String> chain = longest(next, open);
            if (chain.size() > best.size()) best = chain;
        }
        open.remove(method);
        List<String> all = new ArrayList<>(List.of(method));
        all.addAll(best);
        return all;
    }

    private void made(Tree tree) {
        MethodTree around = methodAround();
        if (around != null && around.getReturnType() != null) breaks(12, "something is made outside a constructor", tree);
    }

    @Override
    public Void visitNewClass(NewClassTree tree, Void nothing) {
        made(tree);
        Element type = elementOf(tree.getIdentifier());
        if (type != null && !isOwn(type)) breaks(4, "new " + type, tree);
        return super.visitNewClass(tree, nothing);
    }

    @Override
    public Void visitNewArray(NewArrayTree tree, Void nothing) {
        made(tree);
        for (ExpressionTree length : tree.getDimensions()) if (!isConstant(length)) breaks(7, "the length " + length, length);
        return super.visitNewArray(tree, nothing);
    }

    @Override
    public Void visitMethod(MethodTree tree, Void nothing) {
        callsOf(tree);
        for (VariableTree one : tree.getParameters()) {
            if (one.getName().contentEquals("depth")) carriesDepth.add(nameOf(trees.getElement(getCurrentPath())));
        }
        if (tree.getParameters().size() > PARAMETERS_MOST) breaks(11, tree.getParameters().size() + " parameters", tree);
        LineMap lines = unit.getLineMap();
        long start = trees.getSourcePositions().getStartPosition(unit, tree);
        long end = trees.getSourcePositions().getEndPosition(unit, tree);
        if (end > start && lines.getLineNumber(end) - lines.getLineNumber(start) >= LINES_MOST) breaks(11, "a long method", tree);
        return super.visitMethod(tree, nothing);
    }

    // Rules 6 and 7: what may not stand at all, and divisors.

    @Override
    public Void visitThrow(ThrowTree tree, Void nothing) {
        breaks(6, "throw", tree);
        return super.visitThrow(tree, nothing);
    }

    @Override
    public Void visitTry(TryTree tree, Void nothing) {
        breaks(6, "try", tree);
        return super.visitTry(tree, nothing);
    }

    @Override
    public Void visitAssert(AssertTree tree, Void nothing) {
        breaks(6, "assert", tree);
        return super.visitAssert(tree, nothing);
    }

    @Override
    public Void visitSynchronized(SynchronizedTree tree, Void nothing) {
        breaks(6, "synchronized", tree);
        return super.visitSynchronized(tree, nothing);
    }

    @Override
    public Void visitTypeCast(TypeCastTree tree, Void nothing) {
        if (!(tree.getType() instanceof PrimitiveTypeTree)) breaks(6, "a cast", tree);
        return super.visitTypeCast(tree, nothing);
    }

    private boolean isConstant(ExpressionTree tree) {
        if (tree instanceof LiteralTree one) return one.getValue() instanceof Integer v && v != 0;
        if (tree instanceof BinaryTree two && two.getKind() == Tree.Kind.MULTIPLY) {
            return isConstant(two.getLeftOperand()) && isConstant(two.getRightOperand());
        }
        Element element = elementOf(tree);
        return element instanceof VariableElement v && v.getConstantValue() instanceof Integer value && value != 0;
    }

    @Override
    public Void visitBinary(BinaryTree tree, Void nothing) {
        boolean divides = tree.getKind() == Tree.Kind.DIVIDE || tree.getKind() == Tree.Kind.REMAINDER;
        if (divides && !isConstant(tree.getRightOperand())) breaks(7, "a divisor that is no constant", tree);
        if (tree.getKind() == Tree.Kind.PLUS) {
            TypeMirror type = trees.getTypeMirror(getCurrentPath());
            if (type != null && !type.getKind().isPrimitive()) breaks(10, "texts joined by +", tree);
        }
        return super.visitBinary(tree, nothing);
    }

    @Override
    public Void visitCompoundAssignment(CompoundAssignmentTree tree, Void nothing) {
        boolean divides = tree.getKind() == Tree.Kind.DIVIDE_ASSIGNMENT || tree.getKind() == Tree.Kind.REMAINDER_ASSIGNMENT;
        if (divides && !isConstant(tree.getExpression())) breaks(7, "a divisor that is no constant", tree);
        changed(tree.getVariable(), tree);
        return super.visitCompoundAssignment(tree, nothing);
    }

    // Rule 9: a loop counts up to a bound that its own lines show, and nothing else touches its counter.

    @Override
    public Void visitWhileLoop(WhileLoopTree tree, Void nothing) {
        breaks(9, "while", tree);
        return super.visitWhileLoop(tree, nothing);
    }

    @Override
    public Void visitDoWhileLoop(DoWhileLoopTree tree, Void nothing) {
        breaks(9, "do", tree);
        return super.visitDoWhileLoop(tree, nothing);
    }

    @Override
    public Void visitForLoop(ForLoopTree tree, Void nothing) {
        boolean counts = tree.getInitializer().size() == 1 && tree.getUpdate().size() == 1
            && tree.getInitializer().get(0) instanceof VariableTree;
        String counter = counts ? ((VariableTree) tree.getInitializer().get(0)).getName().toString() : "";
        counts = counts && tree.getUpdate().get(0).getExpression().toString().equals(counter + "++")
            && isBelow(tree.getCondition(), counter) && !isTouched(tree.getStatement(), counter);
        if (!counts) breaks(9, "a loop whose end is not seen", tree);
        return super.visitForLoop(tree, nothing);
    }

    private static boolean isBelow(ExpressionTree condition, String counter) {
        if (!(condition instanceof BinaryTree two)) return false;
        if (two.getKind() == Tree.Kind.CONDITIONAL_AND) {
            return isBelow(two.getLeftOperand(), counter) || isBelow(two.getRightOperand(), counter);
        }
        boolean below = two.getKind() == Tree.Kind.LESS_THAN || two.getKind() == Tree.Kind.LESS_THAN_EQUAL;
        return below && two.getLeftOperand().toString().equals(counter);
    }

    private static boolean isTouched(Tree body, String counter) {
        String code = body.toString();
        String name = "\\b" + counter + "\\b";
        return code.matches("(?s).*" + name + "\\s*([-+*/%&|^]|<<|>>|>>>)?=[^=].*")
            || code.matches("(?s).*(" + name + "(\\+\\+|--)|(\\+\\+|--)" + name + ").*");
    }
}
