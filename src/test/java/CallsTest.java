import com.sun.source.tree.BinaryTree;
import com.sun.source.tree.CompilationUnitTree;
import com.sun.source.tree.ExpressionTree;
import com.sun.source.tree.LiteralTree;
import com.sun.source.tree.MethodInvocationTree;
import com.sun.source.tree.MethodTree;
import com.sun.source.tree.NewClassTree;
import com.sun.source.tree.ThrowTree;
import com.sun.source.tree.Tree;
import com.sun.source.tree.TryTree;
import com.sun.source.util.JavacTask;
import com.sun.source.util.TreePath;
import com.sun.source.util.TreePathScanner;
import com.sun.source.util.Trees;
import java.io.IOException;
import java.nio.file.Path;
import java.util.Map;
import java.util.Set;
import java.util.TreeMap;
import java.util.TreeSet;
import javax.lang.model.element.Element;
import javax.tools.JavaCompiler;
import javax.tools.StandardJavaFileManager;
import javax.tools.ToolProvider;

/**
 * Rules 4, 6, 8, 10 and 11 of ../shared/LANGUAGE.md as the compiler's own tree of the class shows them: what is
 * called, how deep, and what is thrown. Run from the project's folder.
 */
final class CallsTest extends TreePathScanner<Void, String> {
    private static final Check CHECK = new Check("CallsTest");
    private static final Path SOURCE = Path.of("src/main/java/EscrowCounter.java");
    private static final int DEEPEST = 8;
    private static final Set<String> LIBRARY = Set.of("java.lang.Math.max(int,int)", "java.lang.Math.min(int,int)",
            "java.lang.System.arraycopy(java.lang.Object,int,java.lang.Object,int,int)", "java.lang.Object.Object()");
    private static final Set<String> THROWN = Set.of("java.lang.IllegalStateException",
            "java.lang.IllegalArgumentException", "java.lang.IndexOutOfBoundsException");

    private final Trees trees;
    private final Map<String, Set<String>> calls = new TreeMap<>();
    private final Set<String> constructors = new TreeSet<>();
    private int thrown;

    private CallsTest(Trees trees) {
        this.trees = trees;
    }

    public static void main(String[] args) throws IOException {
        JavaCompiler compiler = ToolProvider.getSystemJavaCompiler();
        try (StandardJavaFileManager files = compiler.getStandardFileManager(null, null, null)) {
            JavacTask task = (JavacTask) compiler.getTask(null, files, null, null, null,
                    files.getJavaFileObjects(SOURCE));
            Iterable<? extends CompilationUnitTree> units = task.parse();
            task.analyze();
            CallsTest test = new CallsTest(Trees.instance(task));
            test.scan(units, "");
            test.depths();
        }
        CHECK.end();
    }

    private void depths() {
        CHECK.note(calls.size() > 80, "the methods were not found");
        CHECK.note(thrown > 0, "the throws were not found");
        for (String method : calls.keySet()) {
            int depth = depth(method, 1);
            CHECK.note(depth <= DEEPEST, "the calls of " + method + " go deeper than " + DEEPEST);
        }
    }

    /** How many calls stand open at once at the most; more than the deepest also if a method calls itself. */
    private int depth(String method, int open) {
        int deepest = open;
        for (String called : calls.getOrDefault(method, Set.of())) {
            if (open <= DEEPEST && calls.containsKey(called)) {
                deepest = Math.max(deepest, depth(called, open + 1));
            }
        }
        return deepest;
    }

    @Override
    public Void visitMethod(MethodTree method, String in) {
        String name = name(trees.getElement(getCurrentPath()));
        calls.put(name, new TreeSet<>());
        if (method.getReturnType() == null) {
            constructors.add(name);
        }
        return super.visitMethod(method, name);
    }

    @Override
    public Void visitMethodInvocation(MethodInvocationTree call, String in) {
        called(getCurrentPath(), in);
        return super.visitMethodInvocation(call, in);
    }

    @Override
    public Void visitNewClass(NewClassTree made, String in) {
        if (getCurrentPath().getParentPath().getLeaf().getKind() != Tree.Kind.THROW) {
            called(getCurrentPath(), in);
        }
        return super.visitNewClass(made, in);
    }

    private void called(TreePath path, String in) {
        String name = name(trees.getElement(path));
        boolean isOwn = name.startsWith("EscrowCounter");
        CHECK.note(isOwn || LIBRARY.contains(name), in + " calls " + name);
        if (isOwn && !in.isEmpty()) {
            calls.get(in).add(name);
        }
    }

    @Override
    public Void visitThrow(ThrowTree statement, String in) {
        thrown++;
        ExpressionTree what = statement.getExpression();
        boolean isWritten = what instanceof NewClassTree made && made.getArguments().stream()
                .allMatch(text -> text instanceof LiteralTree);
        CHECK.note(isWritten, in + " throws something that is not written out");
        String type = trees.getTypeMirror(new TreePath(getCurrentPath(), what)).toString();
        CHECK.note(THROWN.contains(type), in + " throws " + type);
        CHECK.note(!constructors.contains(in), in + " is a constructor that throws");
        return super.visitThrow(statement, in);
    }

    @Override
    public Void visitTry(TryTree statement, String in) {
        CHECK.note(false, in + " has a try");
        return super.visitTry(statement, in);
    }

    @Override
    public Void visitBinary(BinaryTree sum, String in) {
        String type = trees.getTypeMirror(getCurrentPath()).toString();
        CHECK.note(Set.of("int", "long", "boolean").contains(type), in + " has an operator that makes a " + type);
        return super.visitBinary(sum, in);
    }

    private static String name(Element element) {
        return element == null ? "something unknown" : element.getEnclosingElement() + "." + element;
    }
}
