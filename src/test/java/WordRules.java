import com.sun.source.tree.BlockTree;
import com.sun.source.tree.ClassTree;
import com.sun.source.tree.IdentifierTree;
import com.sun.source.tree.LiteralTree;
import com.sun.source.tree.MemberSelectTree;
import com.sun.source.tree.MethodInvocationTree;
import com.sun.source.tree.MethodTree;
import com.sun.source.tree.PrimitiveTypeTree;
import com.sun.source.tree.Tree;
import com.sun.source.tree.TypeCastTree;
import com.sun.source.tree.VariableTree;
import java.util.HashSet;
import java.util.List;
import java.util.Set;
import javax.lang.model.element.Element;
import javax.lang.model.element.ElementKind;
import javax.lang.model.element.Modifier;
import javax.lang.model.element.VariableElement;
import javax.lang.model.type.TypeKind;
import javax.lang.model.type.TypeMirror;

/** Rules 1, 2, 3, 5 and 6, and the sizes of rule 10: what may stand in the file at all. */
final class WordRules extends Rules {
    // "some sixty lines" and "some forty fields" are not sharp: a tenth more is let through.
    private static final int MOST_LINES = 66;
    private static final int MOST_FIELDS = 44;
    private static final int MOST_PARAMETERS = 7;

    private static final Set<Tree.Kind> RULED_OUT = Set.of(
        Tree.Kind.THROW, Tree.Kind.TRY, Tree.Kind.SYNCHRONIZED, Tree.Kind.ASSERT,
        Tree.Kind.INSTANCE_OF, Tree.Kind.LAMBDA_EXPRESSION, Tree.Kind.MEMBER_REFERENCE);

    private Element program;
    private int fields;

    WordRules(Source source, List<String> broken) {
        super(source, broken);
    }

    @Override
    void read() {
        if (source.unit.getPackageName() != null) {
            breaks(1, source.unit, "package line");
        }
        if (!source.unit.getImports().isEmpty()) {
            breaks(3, source.unit, "import");
        }
        super.read();
        if (fields > MOST_FIELDS) {
            breaks(10, source.unit, fields + " fields");
        }
    }

    @Override
    public Void scan(Tree tree, Void none) {
        if (tree != null && RULED_OUT.contains(tree.getKind())) {
            breaks(6, tree, "" + tree.getKind());
        }
        return super.scan(tree, none);
    }

    @Override
    public Void visitClass(ClassTree tree, Void none) {
        if (program != null) {
            breaks(1, tree, "another class, interface, enum or record");
            return null;
        }
        program = here();
        Set<Modifier> due = Set.of(Modifier.PUBLIC, Modifier.FINAL);
        if (tree.getKind() != Tree.Kind.CLASS || !tree.getModifiers().getFlags().equals(due)) {
            breaks(1, tree, "no public and final class");
        }
        if (tree.getExtendsClause() != null || !tree.getImplementsClause().isEmpty()) {
            breaks(1, tree, "members of another class or interface");
        }
        readMethodNames(tree);
        return super.visitClass(tree, none);
    }

    private void readMethodNames(ClassTree tree) {
        Set<String> seen = new HashSet<>();
        Set<String> hidden = new HashSet<>();
        for (Tree each : tree.getMembers()) {
            if (each instanceof MethodTree m) {
                boolean isPrivate = m.getModifiers().getFlags().contains(Modifier.PRIVATE);
                (isPrivate ? hidden : seen).add(m.getName().toString());
            }
        }
        hidden.retainAll(seen);
        if (!hidden.isEmpty()) {
            breaks(1, tree, "private methods with the names of public ones: " + hidden);
        }
    }

    @Override
    public Void visitBlock(BlockTree tree, Void none) {
        if (tree.isStatic()) {
            breaks(5, tree, "static initialiser");
        }
        return super.visitBlock(tree, none);
    }

    @Override
    public Void visitVariable(VariableTree tree, Void none) {
        VariableElement variable = (VariableElement) here();
        TypeMirror type = variable.asType();
        if (!isNumber(type) && !isArrayOfNumbers(type)) {
            breaks(2, tree, "type " + type);
        }
        boolean isStatic = variable.getModifiers().contains(Modifier.STATIC);
        if (isStatic && !isWholeConstant(variable)) {
            breaks(5, tree, "static field that is no constant of int or long");
        }
        if (variable.getKind() == ElementKind.FIELD && !isStatic) {
            fields++;
        }
        return super.visitVariable(tree, none);
    }

    private static boolean isWholeConstant(VariableElement field) {
        TypeKind kind = field.asType().getKind();
        return field.getConstantValue() != null && (kind == TypeKind.INT || kind == TypeKind.LONG);
    }

    @Override
    public Void visitMethod(MethodTree tree, Void none) {
        if (tree.getParameters().size() > MOST_PARAMETERS) {
            breaks(10, tree, tree.getParameters().size() + " parameters");
        }
        long lines = source.lastLine(tree) - source.firstLine(tree) + 1;
        if (lines > MOST_LINES) {
            breaks(10, tree, lines + " lines");
        }
        if (!tree.getThrows().isEmpty()) {
            breaks(6, tree, "throws");
        }
        return super.visitMethod(tree, none);
    }

    @Override
    public Void visitPrimitiveType(PrimitiveTypeTree tree, Void none) {
        TypeKind kind = tree.getPrimitiveTypeKind();
        if (kind == TypeKind.FLOAT || kind == TypeKind.DOUBLE) {
            breaks(2, tree, "" + kind);
        }
        return super.visitPrimitiveType(tree, none);
    }

    @Override
    public Void visitLiteral(LiteralTree tree, Void none) {
        TypeMirror type = source.type(getCurrentPath());
        if (!isNumber(type) && type.getKind() != TypeKind.NULL) {
            breaks(2, tree, "" + tree);
        }
        return super.visitLiteral(tree, none);
    }

    @Override
    public Void visitIdentifier(IdentifierTree tree, Void none) {
        readName(tree);
        return super.visitIdentifier(tree, none);
    }

    @Override
    public Void visitMemberSelect(MemberSelectTree tree, Void none) {
        readName(tree);
        return super.visitMemberSelect(tree, none);
    }

    private void readName(Tree tree) {
        Element named = here();
        boolean isType = named != null && (named.getKind().isClass() || named.getKind().isInterface());
        if (isType && !named.equals(program)) {
            breaks(3, tree, "" + named);
        }
    }

    @Override
    public Void visitMethodInvocation(MethodInvocationTree tree, Void none) {
        // The compiler puts super() into a constructor that does not begin with it.
        boolean isSuper = tree.getMethodSelect().toString().equals("super");
        if (!isSuper && !here().getEnclosingElement().equals(program)) {
            breaks(3, tree, "" + tree);
        }
        return super.visitMethodInvocation(tree, none);
    }

    @Override
    public Void visitTypeCast(TypeCastTree tree, Void none) {
        if (!isNumber(typeOf(tree.getType()))) {
            breaks(6, tree, "cast to " + tree.getType());
        }
        return super.visitTypeCast(tree, none);
    }
}
