import com.sun.source.tree.AssertTree;
import com.sun.source.tree.BinaryTree;
import com.sun.source.tree.CatchTree;
import com.sun.source.tree.ClassTree;
import com.sun.source.tree.CompilationUnitTree;
import com.sun.source.tree.ImportTree;
import com.sun.source.tree.LambdaExpressionTree;
import com.sun.source.tree.LiteralTree;
import com.sun.source.tree.MemberReferenceTree;
import com.sun.source.tree.MemberSelectTree;
import com.sun.source.tree.MethodInvocationTree;
import com.sun.source.tree.MethodTree;
import com.sun.source.tree.NewArrayTree;
import com.sun.source.tree.NewClassTree;
import com.sun.source.tree.SynchronizedTree;
import com.sun.source.tree.ThrowTree;
import com.sun.source.tree.Tree;
import com.sun.source.tree.TryTree;
import com.sun.source.tree.TypeCastTree;
import com.sun.source.util.JavacTask;
import com.sun.source.util.TreeScanner;
import com.sun.source.util.Trees;
import java.nio.file.Files;
import java.nio.file.Path;
import java.util.HashSet;
import java.util.List;
import java.util.Set;
import javax.tools.JavaCompiler;
import javax.tools.ToolProvider;

/** LANGUAGE.md as far as the source shows it: rules 1 to 6 and 10 to 13. */
public final class LanguageTest extends TreeScanner<Void, Void> {
    private static final Path SOURCE = Path.of("src/main/java/RottenSeats.java");
    private static final Set<String> LIBRARY = Set.of("Arrays.fill", "System.arraycopy", "Integer.bitCount",
            "Math.min", "Math.max", "letters.length", "letters.charAt");

    private final CompilationUnitTree unit;
    private final Trees trees;
    private final Set<String> own = new HashSet<>();
    private int depth = 0;
    private int classes = 0;

    private LanguageTest(CompilationUnitTree unit, Trees trees) {
        this.unit = unit;
        this.trees = trees;
    }

    public static void main(String[] args) throws Exception {
        JavaCompiler compiler = ToolProvider.getSystemJavaCompiler();
        var files = compiler.getStandardFileManager(null, null, null);
        JavacTask task = (JavacTask) compiler.getTask(null, files, null, List.of("-proc:none"), null,
                files.getJavaFileObjects(SOURCE));
        for (CompilationUnitTree unit : task.parse()) {
            LanguageTest test = new LanguageTest(unit, Trees.instance(task));
            test.gatherOwn();
            test.scan(unit, null);
            test.hold(unit.getPackageName() == null, unit, "a package");
            test.hold(test.classes <= 12, unit, "too many classes");
        }
        String source = Files.readString(SOURCE);
        Due.due("signs beyond 127", source.chars().filter(c -> c > 126 || c < 32 && c != '\n').count(), 0);
        Due.end();
    }

    private void gatherOwn() {
        new TreeScanner<Void, Void>() {
            @Override
            public Void visitMethod(MethodTree method, Void v) {
                own.add(method.getName().toString());
                return super.visitMethod(method, v);
            }
        }.scan(unit, null);
    }

    private void hold(boolean so, Tree at, String what) {
        long line = unit.getLineMap().getLineNumber(trees.getSourcePositions().getStartPosition(unit, at));
        if (so) {
            Due.due(what, 0, 0);
        } else {
            Due.fail("line " + line + ": " + what);
        }
    }

    @Override
    public Void visitImport(ImportTree of, Void v) {
        String name = of.getQualifiedIdentifier().toString();
        hold(Set.of("java.util.Arrays", "java.util.ArrayList", "java.util.List").contains(name), of, "import " + name);
        return null;
    }

    @Override
    public Void visitClass(ClassTree of, Void v) {
        classes++;
        hold(depth <= 1, of, "a class inside a class inside");
        depth++;
        super.visitClass(of, v);
        depth--;
        return null;
    }

    @Override
    public Void visitMethod(MethodTree of, Void v) {
        var lines = unit.getLineMap();
        var places = trees.getSourcePositions();
        long length = lines.getLineNumber(places.getEndPosition(unit, of))
                - lines.getLineNumber(places.getStartPosition(unit, of)) + 1;
        hold(length <= 60, of, of.getName() + " has " + length + " lines");
        hold(of.getParameters().size() <= 7, of, of.getName() + " has too many parameters");
        hold(of.getThrows().isEmpty(), of, of.getName() + " throws");
        return super.visitMethod(of, v);
    }

    @Override
    public Void visitMethodInvocation(MethodInvocationTree of, Void v) {
        Tree select = of.getMethodSelect();
        String name = select.toString();
        if (select instanceof MemberSelectTree member) {
            hold(LIBRARY.contains(name) || own.contains(member.getIdentifier().toString()), of, "a call of " + name);
        } else {
            hold(own.contains(name), of, "a call of " + name);
        }
        return super.visitMethodInvocation(of, v);
    }

    @Override
    public Void visitBinary(BinaryTree of, Void v) {
        boolean text = of.getLeftOperand() instanceof LiteralTree left && left.getValue() instanceof String
                || of.getRightOperand() instanceof LiteralTree right && right.getValue() instanceof String;
        hold(!text, of, "texts joined or compared by a sign");
        return super.visitBinary(of, v);
    }

    /** Rows are made with the object: new stands in fields alone. */
    @Override
    public Void visitNewArray(NewArrayTree of, Void v) {
        hold(of.getDimensions().size() <= 2, of, "an array of three dimensions");
        return super.visitNewArray(of, v);
    }

    @Override
    public Void visitNewClass(NewClassTree of, Void v) {
        hold(of.getClassBody() == null, of, "an anonymous class");
        return super.visitNewClass(of, v);
    }

    @Override
    public Void visitTypeCast(TypeCastTree of, Void v) {
        hold(Set.of("int", "long", "char").contains(of.getType().toString()), of, "a cast to " + of.getType());
        return super.visitTypeCast(of, v);
    }

    @Override
    public Void visitThrow(ThrowTree of, Void v) {
        hold(false, of, "throw");
        return null;
    }

    @Override
    public Void visitTry(TryTree of, Void v) {
        hold(false, of, "try");
        return null;
    }

    @Override
    public Void visitCatch(CatchTree of, Void v) {
        hold(false, of, "catch");
        return null;
    }

    @Override
    public Void visitAssert(AssertTree of, Void v) {
        hold(false, of, "assert");
        return null;
    }

    @Override
    public Void visitSynchronized(SynchronizedTree of, Void v) {
        hold(false, of, "synchronized");
        return null;
    }

    @Override
    public Void visitLambdaExpression(LambdaExpressionTree of, Void v) {
        hold(false, of, "a lambda");
        return null;
    }

    @Override
    public Void visitMemberReference(MemberReferenceTree of, Void v) {
        hold(false, of, "a method reference");
        return null;
    }
}
