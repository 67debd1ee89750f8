import com.sun.source.tree.AssignmentTree;
import com.sun.source.tree.BinaryTree;
import com.sun.source.tree.CompoundAssignmentTree;
import com.sun.source.tree.DoWhileLoopTree;
import com.sun.source.tree.ExpressionTree;
import com.sun.source.tree.ForLoopTree;
import com.sun.source.tree.MethodInvocationTree;
import com.sun.source.tree.MethodTree;
import com.sun.source.tree.ParenthesizedTree;
import com.sun.source.tree.Tree;
import com.sun.source.tree.UnaryTree;
import com.sun.source.tree.WhileLoopTree;
import com.sun.source.util.TreeScanner;
import java.util.ArrayDeque;
import java.util.Deque;
import java.util.HashMap;
import java.util.HashSet;
import java.util.List;
import java.util.Map;
import java.util.Set;
import javax.lang.model.element.Element;

/** Rule 8 and the calls of rule 10: loops that end, no recursion, no deep or nested calls. */
final class FlowRules extends Rules {
    private static final int MOST_DEEP = 6;

    private static final Set<Tree.Kind> COMPARISONS = Set.of(
        Tree.Kind.LESS_THAN, Tree.Kind.LESS_THAN_EQUAL, Tree.Kind.GREATER_THAN,
        Tree.Kind.GREATER_THAN_EQUAL, Tree.Kind.NOT_EQUAL_TO);
    private static final Set<Tree.Kind> STEPS = Set.of(
        Tree.Kind.PREFIX_INCREMENT, Tree.Kind.PREFIX_DECREMENT,
        Tree.Kind.POSTFIX_INCREMENT, Tree.Kind.POSTFIX_DECREMENT);

    private final Map<Element, Set<Element>> calls = new HashMap<>();

    FlowRules(Source source, List<String> broken) {
        super(source, broken);
    }

    @Override
    void read() {
        super.read();
        boolean recursive = false;
        for (Element each : calls.keySet()) {
            if (calledFrom(each).contains(each)) {
                recursive = true;
                breaks(8, source.unit, "recursion from " + each);
            }
        }
        if (!recursive) {
            readDepths();
        }
    }

    /** All methods that a call of this one can lead to. */
    private Set<Element> calledFrom(Element from) {
        Set<Element> seen = new HashSet<>();
        Deque<Element> open = new ArrayDeque<>(calls.get(from));
        while (!open.isEmpty()) {
            Element next = open.pop();
            if (seen.add(next)) {
                open.addAll(calls.getOrDefault(next, Set.of()));
            }
        }
        return seen;
    }

    private void readDepths() {
        for (Element each : calls.keySet()) {
            int depth = depth(each);
            if (depth > MOST_DEEP) {
                breaks(10, source.unit, "calls go " + depth + " deep from " + each);
            }
        }
    }

    /** The methods in the longest chain of calls from this one, itself among them. */
    private int depth(Element from) {
        int below = 0;
        for (Element each : calls.getOrDefault(from, Set.of())) {
            below = Math.max(below, depth(each));
        }
        return 1 + below;
    }

    @Override
    public Void visitMethod(MethodTree tree, Void none) {
        calls.put(here(), new HashSet<>());
        return super.visitMethod(tree, none);
    }

    @Override
    public Void visitMethodInvocation(MethodInvocationTree tree, Void none) {
        if (inside != null) {
            calls.get(inside).add(here());
        }
        for (ExpressionTree each : tree.getArguments()) {
            if (hasCall(each)) {
                breaks(10, each, "call inside the arguments of another");
            }
        }
        return super.visitMethodInvocation(tree, none);
    }

    private static boolean hasCall(Tree tree) {
        boolean[] found = new boolean[1];
        new TreeScanner<Void, Void>() {
            @Override
            public Void visitMethodInvocation(MethodInvocationTree call, Void none) {
                found[0] = true;
                return null;
            }
        }.scan(tree, null);
        return found[0];
    }

    @Override
    public Void visitForLoop(ForLoopTree tree, Void none) {
        readLoop(tree, tree.getCondition());
        return super.visitForLoop(tree, none);
    }

    @Override
    public Void visitWhileLoop(WhileLoopTree tree, Void none) {
        readLoop(tree, tree.getCondition());
        return super.visitWhileLoop(tree, none);
    }

    @Override
    public Void visitDoWhileLoop(DoWhileLoopTree tree, Void none) {
        readLoop(tree, tree.getCondition());
        return super.visitDoWhileLoop(tree, none);
    }

    private void readLoop(Tree loop, ExpressionTree condition) {
        if (condition == null || !isBound(condition, changedIn(loop))) {
            breaks(8, loop, "loop without a counter against a bound");
        }
    }

    /** Whether the condition, or a part of it that must hold as well, compares what the loop changes. */
    private static boolean isBound(ExpressionTree condition, Set<String> changed) {
        if (condition instanceof ParenthesizedTree inner) {
            return isBound(inner.getExpression(), changed);
        }
        if (!(condition instanceof BinaryTree both)) {
            return false;
        }
        if (both.getKind() == Tree.Kind.CONDITIONAL_AND) {
            return isBound(both.getLeftOperand(), changed) || isBound(both.getRightOperand(), changed);
        }
        boolean counts = changed.contains(both.getLeftOperand().toString())
            || changed.contains(both.getRightOperand().toString());
        return counts && COMPARISONS.contains(both.getKind());
    }

    private static Set<String> changedIn(Tree loop) {
        Set<String> changed = new HashSet<>();
        new TreeScanner<Void, Void>() {
            @Override
            public Void visitAssignment(AssignmentTree tree, Void none) {
                changed.add(tree.getVariable().toString());
                return super.visitAssignment(tree, none);
            }

            @Override
            public Void visitCompoundAssignment(CompoundAssignmentTree tree, Void none) {
                changed.add(tree.getVariable().toString());
                return super.visitCompoundAssignment(tree, none);
            }

            @Override
            public Void visitUnary(UnaryTree tree, Void none) {
                if (STEPS.contains(tree.getKind())) {
                    changed.add(tree.getExpression().toString());
                }
                return super.visitUnary(tree, none);
            }
        }.scan(loop, null);
        return changed;
    }
}
