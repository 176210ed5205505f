import com.sun.source.tree.BinaryTree;
import com.sun.source.tree.ClassTree;
import com.sun.source.tree.CompilationUnitTree;
import com.sun.source.tree.LineMap;
import com.sun.source.tree.LiteralTree;
import com.sun.source.tree.ParenthesizedTree;
import com.sun.source.tree.Tree;
import com.sun.source.util.JavacTask;
import com.sun.source.util.SourcePositions;
import com.sun.source.util.TreeScanner;
import com.sun.source.util.Trees;
import java.io.IOException;
import java.net.URI;
import java.nio.file.Files;
import java.nio.file.Path;
import java.util.ArrayList;
import java.util.List;
import javax.tools.JavaFileObject;
import javax.tools.SimpleJavaFileObject;
import javax.tools.ToolProvider;

/** A Java text as the tree that javac makes of it. */
final class Source {
    final CompilationUnitTree unit;
    private final SourcePositions places;

    private Source(CompilationUnitTree unit, SourcePositions places) {
        this.unit = unit;
        this.places = places;
    }

    static String read(Path file) {
        try {
            return Files.readString(file);
        } catch (IOException e) {
            throw new IllegalStateException(file + " can not be read", e);
        }
    }

    static Source of(String text) {
        JavaFileObject file = new SimpleJavaFileObject(URI.create("string:///Text.java"), JavaFileObject.Kind.SOURCE) {
            @Override
            public CharSequence getCharContent(boolean ignoreEncodingErrors) {
                return text;
            }
        };
        JavacTask task = (JavacTask) ToolProvider.getSystemJavaCompiler()
                .getTask(null, null, null, List.of("-proc:none"), null, List.of(file));
        try {
            return new Source(task.parse().iterator().next(), Trees.instance(task).getSourcePositions());
        } catch (IOException e) {
            throw new IllegalStateException(e);
        }
    }

    ClassTree firstClass() {
        return (ClassTree) unit.getTypeDecls().get(0);
    }

    /** How many lines a part of the text goes over. */
    long lines(Tree part) {
        LineMap map = unit.getLineMap();
        return map.getLineNumber(places.getEndPosition(unit, part))
                - map.getLineNumber(places.getStartPosition(unit, part)) + 1;
    }

    /** The constant texts in it, those joined by + as one. */
    List<String> texts() {
        List<String> texts = new ArrayList<>();
        new TreeScanner<Void, Void>() {
            @Override
            public Void visitBinary(BinaryTree tree, Void none) {
                String whole = joined(tree);
                if (whole == null) {
                    return super.visitBinary(tree, none);
                }
                texts.add(whole);
                return null;
            }

            @Override
            public Void visitLiteral(LiteralTree tree, Void none) {
                if (tree.getValue() instanceof String) {
                    texts.add((String) tree.getValue());
                }
                return null;
            }
        }.scan(unit, null);
        return texts;
    }

    private static String joined(Tree tree) {
        if (tree instanceof LiteralTree literal) {
            return literal.getValue() instanceof String ? (String) literal.getValue() : null;
        }
        if (tree instanceof ParenthesizedTree inner) {
            return joined(inner.getExpression());
        }
        if (tree instanceof BinaryTree both && tree.getKind() == Tree.Kind.PLUS) {
            String left = joined(both.getLeftOperand());
            String right = joined(both.getRightOperand());
            return left == null || right == null ? null : left + right;
        }
        return null;
    }
}
