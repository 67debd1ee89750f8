import com.sun.source.tree.ExpressionTree;
import com.sun.source.tree.MethodTree;
import com.sun.source.tree.Tree;
import com.sun.source.util.TreePath;
import com.sun.source.util.TreePathScanner;
import java.util.ArrayList;
import java.util.List;
import java.util.Set;
import javax.lang.model.element.Element;
import javax.lang.model.element.ElementKind;
import javax.lang.model.type.ArrayType;
import javax.lang.model.type.TypeKind;
import javax.lang.model.type.TypeMirror;

/** Reads a source and tells which rules of LANGUAGE.md it breaks, each as "rule: line: what". */
abstract class Rules extends TreePathScanner<Void, Void> {
    private static final Set<TypeKind> NUMBERS = Set.of(
        TypeKind.INT, TypeKind.LONG, TypeKind.SHORT, TypeKind.BYTE, TypeKind.CHAR, TypeKind.BOOLEAN);

    final Source source;
    private final List<String> broken;

    // The method or constructor that is being read, none in a field's initialiser.
    Element inside;

    Rules(Source source, List<String> broken) {
        this.source = source;
        this.broken = broken;
    }

    static List<String> brokenBy(Source source) {
        List<String> broken = new ArrayList<>();
        new WordRules(source, broken).read();
        new ArrayRules(source, broken).read();
        new FlowRules(source, broken).read();
        return broken;
    }

    void read() {
        scan(source.unit, null);
    }

    final void breaks(int rule, Tree where, String what) {
        broken.add(rule + ": line " + source.firstLine(where) + ": " + what);
    }

    @Override
    public Void visitMethod(MethodTree tree, Void none) {
        inside = here();
        super.visitMethod(tree, none);
        inside = null;
        return null;
    }

    final boolean inConstructor() {
        return inside != null && inside.getKind() == ElementKind.CONSTRUCTOR;
    }

    /** What the tree that is being read names, calls or declares. */
    final Element here() {
        return source.element(getCurrentPath());
    }

    final Element named(ExpressionTree part) {
        return source.element(new TreePath(getCurrentPath(), part));
    }

    final TypeMirror typeOf(Tree part) {
        return source.type(new TreePath(getCurrentPath(), part));
    }

    static boolean isNumber(TypeMirror type) {
        return NUMBERS.contains(type.getKind());
    }

    static boolean isArray(TypeMirror type) {
        return type.getKind() == TypeKind.ARRAY;
    }

    static boolean isArrayOfNumbers(TypeMirror type) {
        return type instanceof ArrayType array && isNumber(array.getComponentType());
    }
}
