import com.sun.source.tree.AssignmentTree;
import com.sun.source.tree.BinaryTree;
import com.sun.source.tree.ConditionalExpressionTree;
import com.sun.source.tree.DoWhileLoopTree;
import com.sun.source.tree.EnhancedForLoopTree;
import com.sun.source.tree.ExpressionTree;
import com.sun.source.tree.ForLoopTree;
import com.sun.source.tree.IfTree;
import com.sun.source.tree.LiteralTree;
import com.sun.source.tree.MethodInvocationTree;
import com.sun.source.tree.MethodTree;
import com.sun.source.tree.NewArrayTree;
import com.sun.source.tree.NewClassTree;
import com.sun.source.tree.SwitchTree;
import com.sun.source.tree.Tree;
import com.sun.source.tree.VariableTree;
import com.sun.source.tree.WhileLoopTree;
import java.util.HashSet;
import java.util.List;
import java.util.Set;
import javax.lang.model.element.Element;
import javax.lang.model.element.ElementKind;
import javax.lang.model.element.Modifier;
import javax.lang.model.element.VariableElement;

/** Rule 4: where arrays are made, and what becomes of them. */
final class ArrayRules extends Rules {
    private final Set<Element> made = new HashSet<>();
    private int loops;
    private int conditions;
    private boolean constructorHasCalled;

    ArrayRules(Source source, List<String> broken) {
        super(source, broken);
    }

    @Override
    public Void visitNewArray(NewArrayTree tree, Void none) {
        boolean inField = inside == null && getCurrentPath().getParentPath().getLeaf() instanceof VariableTree;
        if (!inField && !inConstructor()) {
            breaks(4, tree, "array made in a method");
        }
        if (loops > 0 || conditions > 0) {
            breaks(4, tree, "array made in a loop or behind a condition");
        }
        if (inConstructor() && constructorHasCalled) {
            breaks(4, tree, "array made after a call in the constructor");
        }
        if (tree.getInitializers() != null || tree.getDimensions().size() != 1) {
            breaks(4, tree, "array without one length");
        } else if (!isConstantLength(tree.getDimensions().get(0))) {
            breaks(4, tree, "array whose length is no literal or constant of 1 or more");
        }
        return super.visitNewArray(tree, none);
    }

    private boolean isConstantLength(ExpressionTree length) {
        Object value = null;
        if (length instanceof LiteralTree literal) {
            value = literal.getValue();
        } else if (named(length) instanceof VariableElement constant) {
            value = constant.getConstantValue();
        }
        return value instanceof Integer n && n >= 1;
    }

    @Override
    public Void visitNewClass(NewClassTree tree, Void none) {
        breaks(4, tree, "object made");
        return super.visitNewClass(tree, none);
    }

    @Override
    public Void visitVariable(VariableTree tree, Void none) {
        if (here().getKind() == ElementKind.FIELD && tree.getInitializer() instanceof NewArrayTree) {
            made.add(here());
        }
        return super.visitVariable(tree, none);
    }

    @Override
    public Void visitAssignment(AssignmentTree tree, Void none) {
        Element target = named(tree.getVariable());
        if (target != null && isArray(target.asType())) {
            readArrayAssignment(tree, target);
        }
        return super.visitAssignment(tree, none);
    }

    private void readArrayAssignment(AssignmentTree tree, Element target) {
        if (target.getKind() != ElementKind.FIELD) {
            if (loops > 0) {
                breaks(4, tree, "local array changes in a loop");
            }
        } else if (!inConstructor()) {
            breaks(4, tree, "method assigns to an array field");
        } else if (!made.add(target)) {
            breaks(4, tree, "array made twice");
        }
    }

    @Override
    public Void visitMethod(MethodTree tree, Void none) {
        if (tree.getReturnType() != null && isArray(typeOf(tree.getReturnType()))) {
            breaks(4, tree, "array answered");
        }
        constructorHasCalled = false;
        return super.visitMethod(tree, none);
    }

    @Override
    public Void visitMethodInvocation(MethodInvocationTree tree, Void none) {
        boolean isStatic = here().getModifiers().contains(Modifier.STATIC);
        boolean isSuper = tree.getMethodSelect().toString().equals("super");
        if (inConstructor() && !isStatic && !isSuper) {
            constructorHasCalled = true;
            for (ExpressionTree each : tree.getArguments()) {
                if (isArray(typeOf(each))) {
                    breaks(4, each, "array handed on by the constructor");
                }
            }
        }
        return super.visitMethodInvocation(tree, none);
    }

    @Override
    public Void visitBinary(BinaryTree tree, Void none) {
        boolean compares = tree.getKind() == Tree.Kind.EQUAL_TO || tree.getKind() == Tree.Kind.NOT_EQUAL_TO;
        if (compares && (isArray(typeOf(tree.getLeftOperand())) || isArray(typeOf(tree.getRightOperand())))) {
            breaks(4, tree, "array compared");
        }
        return super.visitBinary(tree, none);
    }

    @Override
    public Void visitLiteral(LiteralTree tree, Void none) {
        if (tree.getKind() == Tree.Kind.NULL_LITERAL) {
            breaks(4, tree, "null");
        }
        return super.visitLiteral(tree, none);
    }

    @Override
    public Void visitForLoop(ForLoopTree tree, Void none) {
        loops++;
        super.visitForLoop(tree, none);
        loops--;
        return null;
    }

    @Override
    public Void visitEnhancedForLoop(EnhancedForLoopTree tree, Void none) {
        loops++;
        super.visitEnhancedForLoop(tree, none);
        loops--;
        return null;
    }

    @Override
    public Void visitWhileLoop(WhileLoopTree tree, Void none) {
        loops++;
        super.visitWhileLoop(tree, none);
        loops--;
        return null;
    }

    @Override
    public Void visitDoWhileLoop(DoWhileLoopTree tree, Void none) {
        loops++;
        super.visitDoWhileLoop(tree, none);
        loops--;
        return null;
    }

    @Override
    public Void visitIf(IfTree tree, Void none) {
        conditions++;
        super.visitIf(tree, none);
        conditions--;
        return null;
    }

    @Override
    public Void visitSwitch(SwitchTree tree, Void none) {
        conditions++;
        super.visitSwitch(tree, none);
        conditions--;
        return null;
    }

    @Override
    public Void visitConditionalExpression(ConditionalExpressionTree tree, Void none) {
        conditions++;
        super.visitConditionalExpression(tree, none);
        conditions--;
        return null;
    }
}
