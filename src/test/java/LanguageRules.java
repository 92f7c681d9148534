import com.sun.source.tree.AssertTree;
import com.sun.source.tree.BinaryTree;
import com.sun.source.tree.ClassTree;
import com.sun.source.tree.CompilationUnitTree;
import com.sun.source.tree.DoWhileLoopTree;
import com.sun.source.tree.EnhancedForLoopTree;
import com.sun.source.tree.ForLoopTree;
import com.sun.source.tree.LambdaExpressionTree;
import com.sun.source.tree.LiteralTree;
import com.sun.source.tree.MemberReferenceTree;
import com.sun.source.tree.MethodInvocationTree;
import com.sun.source.tree.MethodTree;
import com.sun.source.tree.NewArrayTree;
import com.sun.source.tree.NewClassTree;
import com.sun.source.tree.SynchronizedTree;
import com.sun.source.tree.ThrowTree;
import com.sun.source.tree.Tree;
import com.sun.source.tree.TryTree;
import com.sun.source.tree.TypeCastTree;
import com.sun.source.tree.VariableTree;
import com.sun.source.tree.WhileLoopTree;
import com.sun.source.util.JavacTask;
import com.sun.source.util.TreePath;
import com.sun.source.util.TreePathScanner;
import com.sun.source.util.Trees;
import java.util.HashSet;
import java.util.Map;
import java.util.Set;
import java.util.TreeMap;
import java.util.TreeSet;
import javax.lang.model.element.Element;
import javax.lang.model.element.ElementKind;
import javax.lang.model.element.Modifier;

/** The rules of LANGUAGE.md that a tree of the class shows; where it keeps to less than they leave, to that. */
final class LanguageRules extends TreePathScanner<Void, Void> {
    private static final Set<String> LIBRARY = Set.of("java.lang.Math.max", "java.lang.Math.min",
        "java.lang.Integer.bitCount", "java.util.Arrays.fill", "java.lang.System.arraycopy");
    private static final Set<String> TYPES = Set.of("int", "long", "boolean", "int[]");
    private static final int MOST_PARAMETERS = 7;
    private static final int MOST_LINES = 60;
    private static final int MOST_FIELDS = 20;
    private static final int MOST_CLASSES = 12;
    private static final int MOST_DEEP = 8;

    private final Check check;
    private final Trees trees;
    private final CompilationUnitTree unit;
    private final Map<String, Set<String>> calls = new TreeMap<>();
    private final Map<String, Integer> depths = new TreeMap<>();
    private int classes;

    LanguageRules(Check check, JavacTask task, CompilationUnitTree unit) {
        this.check = check;
        this.trees = Trees.instance(task);
        this.unit = unit;
    }

    void end() {
        check.isTrue("rule 11: some twelve classes, not " + classes, classes <= MOST_CLASSES);
        for (String method : calls.keySet()) {
            int depth = depthOf(method, new HashSet<>());
            check.isTrue("rules 8 and 11: " + method + " goes " + depth + " deep", depth <= MOST_DEEP);
        }
    }

    /** The class has no recursion: a method that comes to itself again counts as too deep. */
    private int depthOf(String method, Set<String> open) {
        if (depths.containsKey(method)) {
            return depths.get(method);
        }
        if (!open.add(method)) {
            return MOST_DEEP + 1;
        }
        int deepest = 0;
        for (String called : calls.getOrDefault(method, Set.of())) {
            deepest = Math.max(deepest, depthOf(called, open));
        }
        open.remove(method);
        depths.put(method, deepest + 1);
        return deepest + 1;
    }

    private String place(Tree tree) {
        return "line " + lineOf(trees.getSourcePositions().getStartPosition(unit, tree));
    }

    private long lineOf(long position) {
        return unit.getLineMap().getLineNumber(position);
    }

    private void bar(int rule, String what, Tree tree) {
        check.isTrue("rule " + rule + ": no " + what + ", " + place(tree), false);
    }

    private static String nameOf(Element element) {
        return element.getEnclosingElement() + "." + element.getSimpleName();
    }

    @Override
    public Void visitClass(ClassTree tree, Void none) {
        classes++;
        Element element = trees.getElement(getCurrentPath());
        Set<Modifier> modifiers = element.getModifiers();
        boolean isFace = element.getEnclosingElement().getKind() == ElementKind.PACKAGE;
        check.isTrue("rule 1: the face is public and final, " + place(tree),
            !isFace || modifiers.contains(Modifier.PUBLIC) && modifiers.contains(Modifier.FINAL));
        check.isTrue("rule 1: classes inside are private and static, " + place(tree),
            isFace || modifiers.contains(Modifier.PRIVATE) && modifiers.contains(Modifier.STATIC));
        int fields = 0;
        for (Tree member : tree.getMembers()) {
            boolean isField = member instanceof VariableTree field
                && !field.getModifiers().getFlags().contains(Modifier.STATIC);
            fields += isField ? 1 : 0;
            check.isTrue("rule 5: no initialiser block, " + place(member), member.getKind() != Tree.Kind.BLOCK);
        }
        check.isTrue("rule 11: some twenty fields, " + place(tree), fields <= MOST_FIELDS);
        return super.visitClass(tree, none);
    }

    @Override
    public Void visitMethod(MethodTree tree, Void none) {
        Element element = trees.getElement(getCurrentPath());
        calls.computeIfAbsent(nameOf(element), name -> new TreeSet<>());
        check.isTrue("rule 11: seven parameters, " + place(tree), tree.getParameters().size() <= MOST_PARAMETERS);
        long first = trees.getSourcePositions().getStartPosition(unit, tree);
        long last = trees.getSourcePositions().getEndPosition(unit, tree);
        check.isTrue("rule 11: short methods, " + place(tree), last < 0 || lineOf(last) - lineOf(first) < MOST_LINES);
        return super.visitMethod(tree, none);
    }

    @Override
    public Void visitVariable(VariableTree tree, Void none) {
        Element element = trees.getElement(getCurrentPath());
        String type = element.asType().toString();
        check.isTrue("rule 3: " + type + ", " + place(tree), TYPES.contains(type) || type.startsWith("BlowOwed."));
        if (element.getModifiers().contains(Modifier.STATIC)) {
            check.isTrue("rule 5: constants of int and long, " + place(tree),
                element.getModifiers().contains(Modifier.FINAL) && (type.equals("int") || type.equals("long")));
        }
        return super.visitVariable(tree, none);
    }

    @Override
    public Void visitMethodInvocation(MethodInvocationTree tree, Void none) {
        Element called = trees.getElement(new TreePath(getCurrentPath(), tree.getMethodSelect()));
        boolean isOwn = called.getEnclosingElement().toString().startsWith("BlowOwed");
        // The call of the class above that each constructor begins with is the compiler's.
        boolean isAbove = called.getKind() == ElementKind.CONSTRUCTOR;
        check.isTrue("rule 4: " + nameOf(called) + ", " + place(tree), isOwn || isAbove || LIBRARY.contains(nameOf(called)));
        if (isOwn) {
            remember(called);
        }
        return super.visitMethodInvocation(tree, none);
    }

    @Override
    public Void visitNewClass(NewClassTree tree, Void none) {
        Element made = trees.getElement(getCurrentPath());
        check.isTrue("rule 4: own classes alone are made, " + place(tree),
            made.getEnclosingElement().toString().startsWith("BlowOwed") && tree.getClassBody() == null);
        check.isTrue("rule 12: made with the object, or with an image, " + place(tree), isMadeOnce());
        remember(made);
        return super.visitNewClass(tree, none);
    }

    /** All calls of a run live in one room: none makes rows anew. */
    private boolean isMadeOnce() {
        String maker = makerName();
        return maker.isEmpty() || maker.equals("<init>") || maker.equals("image");
    }

    private String makerName() {
        for (TreePath path = getCurrentPath(); path != null; path = path.getParentPath()) {
            if (path.getLeaf() instanceof MethodTree method) {
                return method.getName().toString();
            }
        }
        return "";
    }

    private void remember(Element called) {
        for (TreePath path = getCurrentPath(); path != null; path = path.getParentPath()) {
            if (path.getLeaf() instanceof MethodTree) {
                calls.computeIfAbsent(nameOf(trees.getElement(path)), name -> new TreeSet<>()).add(nameOf(called));
                return;
            }
        }
    }

    @Override
    public Void visitNewArray(NewArrayTree tree, Void none) {
        check.isTrue("rule 3: one dimension, " + place(tree), tree.getDimensions().size() == 1);
        check.isTrue("rule 12: made with the object, " + place(tree), isMadeOnce());
        return super.visitNewArray(tree, none);
    }

    @Override
    public Void visitForLoop(ForLoopTree tree, Void none) {
        check.isTrue("rule 9: a counter against a bound, " + place(tree), tree.getCondition() instanceof BinaryTree
            && tree.getInitializer().size() == 1 && tree.getUpdate().size() == 1);
        return super.visitForLoop(tree, none);
    }

    @Override
    public Void visitBinary(BinaryTree tree, Void none) {
        if (tree.getKind() == Tree.Kind.DIVIDE || tree.getKind() == Tree.Kind.REMAINDER) {
            check.isTrue("rule 7: a divisor that is written or looked at, " + place(tree), isSafeDivisor(tree));
        }
        return super.visitBinary(tree, none);
    }

    private boolean isSafeDivisor(BinaryTree tree) {
        if (tree.getRightOperand() instanceof LiteralTree written) {
            return !written.getValue().equals(0);
        }
        Element named = trees.getElement(new TreePath(getCurrentPath(), tree.getRightOperand()));
        if (named instanceof javax.lang.model.element.VariableElement constant && constant.getConstantValue() != null) {
            return !constant.getConstantValue().equals(0);
        }
        // by > 0 ? .. : .., b != 0 as its loop goes on, common < 1 answered before, a counter from 0 and one more.
        return Set.of("by", "b", "common", "(clear + 1)").contains(tree.getRightOperand().toString());
    }

    @Override
    public Void visitWhileLoop(WhileLoopTree tree, Void none) {
        bar(9, "while", tree);
        return super.visitWhileLoop(tree, none);
    }

    @Override
    public Void visitDoWhileLoop(DoWhileLoopTree tree, Void none) {
        bar(9, "do", tree);
        return super.visitDoWhileLoop(tree, none);
    }

    @Override
    public Void visitEnhancedForLoop(EnhancedForLoopTree tree, Void none) {
        bar(12, "iterator", tree);
        return super.visitEnhancedForLoop(tree, none);
    }

    @Override
    public Void visitLambdaExpression(LambdaExpressionTree tree, Void none) {
        bar(2, "lambda", tree);
        return super.visitLambdaExpression(tree, none);
    }

    @Override
    public Void visitMemberReference(MemberReferenceTree tree, Void none) {
        bar(2, "method reference", tree);
        return super.visitMemberReference(tree, none);
    }

    @Override
    public Void visitThrow(ThrowTree tree, Void none) {
        bar(6, "throw", tree);
        return super.visitThrow(tree, none);
    }

    @Override
    public Void visitTry(TryTree tree, Void none) {
        bar(6, "try", tree);
        return super.visitTry(tree, none);
    }

    @Override
    public Void visitSynchronized(SynchronizedTree tree, Void none) {
        bar(6, "synchronized", tree);
        return super.visitSynchronized(tree, none);
    }

    @Override
    public Void visitAssert(AssertTree tree, Void none) {
        bar(6, "assert", tree);
        return super.visitAssert(tree, none);
    }

    @Override
    public Void visitTypeCast(TypeCastTree tree, Void none) {
        bar(7, "cast", tree);
        return super.visitTypeCast(tree, none);
    }
}
