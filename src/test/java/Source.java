import com.sun.source.tree.CompilationUnitTree;
import com.sun.source.tree.Tree;
import com.sun.source.util.JavacTask;
import com.sun.source.util.TreePath;
import com.sun.source.util.Trees;
import java.io.IOException;
import java.net.URI;
import java.util.List;
import javax.lang.model.element.Element;
import javax.lang.model.type.TypeMirror;
import javax.tools.Diagnostic;
import javax.tools.DiagnosticCollector;
import javax.tools.JavaFileObject;
import javax.tools.SimpleJavaFileObject;
import javax.tools.ToolProvider;

/** The text of HeadTail.java as the compiler reads it, with the meaning of every name in it. */
final class Source {
    final CompilationUnitTree unit;
    final boolean compiles;
    private final Trees trees;

    Source(String text) throws IOException {
        DiagnosticCollector<JavaFileObject> told = new DiagnosticCollector<>();
        List<String> options = List.of("--release", "17", "-proc:none");
        JavacTask task = (JavacTask) ToolProvider.getSystemJavaCompiler()
            .getTask(null, null, told, options, null, List.of(new Text(text)));
        unit = task.parse().iterator().next();
        task.analyze();
        compiles = told.getDiagnostics().stream().noneMatch(d -> d.getKind() == Diagnostic.Kind.ERROR);
        trees = Trees.instance(task);
    }

    /** What the name or the call at the end of the path stands for. */
    Element element(TreePath path) {
        return trees.getElement(path);
    }

    TypeMirror type(TreePath path) {
        return trees.getTypeMirror(path);
    }

    long firstLine(Tree tree) {
        return line(trees.getSourcePositions().getStartPosition(unit, tree));
    }

    long lastLine(Tree tree) {
        return line(trees.getSourcePositions().getEndPosition(unit, tree));
    }

    private long line(long position) {
        return position < 0 ? 0 : unit.getLineMap().getLineNumber(position);
    }

    private static final class Text extends SimpleJavaFileObject {
        private final String text;

        Text(String text) {
            super(URI.create("string:///HeadTail.java"), Kind.SOURCE);
            this.text = text;
        }

        @Override
        public CharSequence getCharContent(boolean ignoreEncodingErrors) {
            return text;
        }
    }
}
