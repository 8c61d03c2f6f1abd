import com.sun.source.tree.BinaryTree;
import com.sun.source.tree.ClassTree;
import com.sun.source.tree.CompilationUnitTree;
import com.sun.source.tree.ExpressionTree;
import com.sun.source.tree.MethodInvocationTree;
import com.sun.source.tree.MethodTree;
import com.sun.source.tree.NewArrayTree;
import com.sun.source.tree.NewClassTree;
import com.sun.source.tree.Tree;
import com.sun.source.util.JavacTask;
import com.sun.source.util.TreePath;
import com.sun.source.util.TreePathScanner;
import com.sun.source.util.Trees;
import java.io.File;
import java.io.IOException;
import java.io.UncheckedIOException;
import java.util.HashMap;
import java.util.List;
import java.util.Map;
import java.util.Set;
import java.util.TreeMap;
import java.util.TreeSet;
import javax.lang.model.element.Element;
import javax.lang.model.element.ElementKind;
import javax.lang.model.element.ExecutableElement;
import javax.lang.model.element.Modifier;
import javax.lang.model.element.VariableElement;
import javax.lang.model.util.ElementFilter;
import javax.tools.JavaCompiler;
import javax.tools.StandardJavaFileManager;
import javax.tools.ToolProvider;

/** Rules of LANGUAGE.md that only the compiler's reading of the source shows: what calls what, and makes what. */
final class CallsTest {
    private static final int DEEPEST = 8, FIELDS = 20;
    private static final Set<String> LIBRARY = Set.of(
        "java.lang.String.length()", "java.lang.String.charAt(int)", "java.lang.Math.abs(long)",
        "java.lang.Math.max(int,int)", "java.lang.Math.min(int,int)",
        "java.lang.System.arraycopy(java.lang.Object,int,java.lang.Object,int,int)");

    private final Map<String, Set<String>> calls = new TreeMap<>();
    private final Set<String> constructors = new TreeSet<>();
    private final Set<String> madeByCalls = new TreeSet<>();
    private int madeAtFirst = 0;
    private final Set<String> joined = new TreeSet<>();
    private final Map<String, Integer> fields = new TreeMap<>();

    private CallsTest() { }

    static void all(String source) {
        CallsTest seen = new CallsTest();
        Check.test("the language: the compiler reads the source", () -> seen.read(source));
        Check.test("the language: calls go at most eight deep, and none comes back to itself", seen::depths);
        Check.test("the language: the library's calls", seen::library);
        Check.test("the language: no call makes an object or an array", seen::makes);
        Check.test("the language: few fields", seen::fewFields);
    }

    private void read(String source) {
        JavaCompiler compiler = ToolProvider.getSystemJavaCompiler();
        try (StandardJavaFileManager files = compiler.getStandardFileManager(null, null, null)) {
            JavacTask task = (JavacTask) compiler.getTask(null, files, null, List.of("-proc:none"), null,
                files.getJavaFileObjects(new File(source)));
            Iterable<? extends CompilationUnitTree> units = task.parse();
            task.analyze();
            for (CompilationUnitTree unit : units) {
                new Reader(Trees.instance(task)).scan(unit, null);
            }
        } catch (IOException e) {
            throw new UncheckedIOException(e);
        }
        Check.due("methods were found", calls.size() > 80 ? 1 : 0, 1);
        Check.due("constructors make something", madeAtFirst > 0 ? 1 : 0, 1);
    }

    /** Tells for each method what it calls; what it is in is told along (null: a field's first value). */
    private final class Reader extends TreePathScanner<Void, String> {
        private final Trees trees;

        Reader(Trees trees) {
            this.trees = trees;
        }

        private String nameOf(Tree tree) {
            Element e = trees.getElement(new TreePath(getCurrentPath(), tree));
            return e == null ? tree.toString() : e.getEnclosingElement() + "." + e;
        }

        private void make(String in, Tree tree) {
            if (in == null || constructors.contains(in)) {
                madeAtFirst++;
            } else {
                madeByCalls.add(in + ": " + tree);
            }
        }

        @Override public Void visitClass(ClassTree tree, String in) {
            Element e = trees.getElement(getCurrentPath());
            int found = 0;
            for (VariableElement field : ElementFilter.fieldsIn(e.getEnclosedElements())) {
                found += field.getModifiers().contains(Modifier.STATIC) ? 0 : 1;
            }
            fields.put(e.toString(), found);
            return super.visitClass(tree, in);
        }

        @Override public Void visitMethod(MethodTree tree, String in) {
            ExecutableElement e = (ExecutableElement) trees.getElement(getCurrentPath());
            String name = e.getEnclosingElement() + "." + e;
            calls.put(name, new TreeSet<>());
            if (e.getKind() == ElementKind.CONSTRUCTOR) {
                constructors.add(name);
            }
            return super.visitMethod(tree, name);
        }

        @Override public Void visitMethodInvocation(MethodInvocationTree tree, String in) {
            String name = nameOf(tree.getMethodSelect());
            // A constructor's own first call is the compiler's, not the source's.
            if (in != null && !name.equals("java.lang.Object.Object()")) {
                calls.get(in).add(name);
            }
            return super.visitMethodInvocation(tree, in);
        }

        @Override public Void visitNewClass(NewClassTree tree, String in) {
            make(in, tree);
            return super.visitNewClass(tree, in);
        }

        @Override public Void visitNewArray(NewArrayTree tree, String in) {
            make(in, tree);
            return super.visitNewArray(tree, in);
        }

        @Override public Void visitBinary(BinaryTree tree, String in) {
            for (ExpressionTree side : List.of(tree.getLeftOperand(), tree.getRightOperand())) {
                TreePath path = new TreePath(getCurrentPath(), side);
                if (tree.getKind() == Tree.Kind.PLUS && trees.getTypeMirror(path).toString().endsWith("String")) {
                    joined.add(in + ": " + tree);
                }
            }
            return super.visitBinary(tree, in);
        }
    }

    private void depths() {
        Map<String, Integer> known = new HashMap<>();
        for (String method : calls.keySet()) {
            int depth = depthOf(method, 1, known);
            Check.due(method + " goes " + depth + " deep", depth <= DEEPEST ? 1 : 0, 1);
        }
    }

    private int depthOf(String method, int open, Map<String, Integer> known) {
        if (open > calls.size()) {
            throw new IllegalStateException(method + " comes back to itself");
        }
        if (!known.containsKey(method)) {
            int deepest = 0;
            for (String called : calls.get(method)) {
                if (calls.containsKey(called)) {
                    deepest = Math.max(deepest, depthOf(called, open + 1, known));
                }
            }
            known.put(method, deepest + 1);
        }
        return known.get(method);
    }

    private void library() {
        for (Map.Entry<String, Set<String>> method : calls.entrySet()) {
            for (String called : method.getValue()) {
                boolean fine = calls.containsKey(called) || LIBRARY.contains(called);
                Check.due(method.getKey() + " calls " + called, fine ? 1 : 0, 1);
            }
        }
        Check.due("texts joined by +: " + joined, joined.size(), 0);
    }

    private void makes() {
        Check.due("made by calls: " + madeByCalls, madeByCalls.size(), 0);
    }

    private void fewFields() {
        for (Map.Entry<String, Integer> e : fields.entrySet()) {
            Check.due(e.getKey() + " has " + e.getValue() + " fields", e.getValue() <= FIELDS ? 1 : 0, 1);
        }
    }
}
