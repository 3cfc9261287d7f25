import com.sun.source.tree.ClassTree;
import com.sun.source.tree.CompilationUnitTree;
import com.sun.source.tree.MethodInvocationTree;
import com.sun.source.tree.MethodTree;
import com.sun.source.tree.NewArrayTree;
import com.sun.source.tree.NewClassTree;
import com.sun.source.tree.VariableTree;
import com.sun.source.util.JavacTask;
import com.sun.source.util.TreePath;
import com.sun.source.util.TreePathScanner;
import com.sun.source.util.Trees;
import java.io.File;
import java.util.HashMap;
import java.util.HashSet;
import java.util.Map;
import java.util.Set;
import java.util.TreeSet;
import javax.lang.model.element.Element;
import javax.lang.model.element.ElementKind;
import javax.lang.model.element.TypeElement;
import javax.tools.JavaCompiler;
import javax.tools.StandardJavaFileManager;
import javax.tools.ToolProvider;

/**
 * What LANGUAGE.md says of calls and classes, seen in the syntax tree: no recursion, at most eight calls deep,
 * nothing of the library beyond the list, objects made in constructors alone. The first argument is the source.
 */
public final class CallsTest {
    private static final Check CHECK = new Check("CallsTest");
    private static final int DEEPEST = 8, MOST_FIELDS = 20;
    private static final Set<String> LIBRARY = Set.of("java.lang.Math.max", "java.lang.Math.min", "java.lang.Integer.compare",
        "java.lang.Long.bitCount", "java.lang.System.arraycopy", "java.util.Arrays.fill", "java.lang.String.indexOf",
        "java.lang.Object.<init>");

    private final Map<Element, Set<Element>> calls = new HashMap<>();
    private final Set<String> library = new TreeSet<>();
    private final Set<Element> own = new HashSet<>();

    public static void main(String[] args) throws Exception {
        JavaCompiler compiler = ToolProvider.getSystemJavaCompiler();
        try (StandardJavaFileManager files = compiler.getStandardFileManager(null, null, null)) {
            File source = new File(args.length > 0 ? args[0] : "src/main/java/RedSky.java");
            JavacTask task = (JavacTask) compiler.getTask(null, files, null, null, null, files.getJavaFileObjects(source));
            CompilationUnitTree unit = task.parse().iterator().next();
            task.analyze();
            new CallsTest().look(unit, Trees.instance(task));
        }
        CHECK.end();
    }

    private void look(CompilationUnitTree unit, Trees trees) {
        new TreePathScanner<Void, Element>() {
            @Override
            public Void visitClass(ClassTree c, Element in) {
                int fields = 0;
                for (var member : c.getMembers()) {
                    boolean isField = member instanceof VariableTree;
                    fields += isField && !((VariableTree) member).getModifiers().toString().contains("static") ? 1 : 0;
                }
                CHECK.holds(c.getSimpleName() + " has " + fields + " fields", fields <= MOST_FIELDS);
                return super.visitClass(c, null);
            }

            @Override
            public Void visitMethod(MethodTree m, Element in) {
                Element method = trees.getElement(getCurrentPath());
                own.add(method);
                calls.putIfAbsent(method, new HashSet<>());
                return super.visitMethod(m, method);
            }

            @Override
            public Void visitMethodInvocation(MethodInvocationTree call, Element in) {
                if (in != null) {
                    calls.get(in).add(trees.getElement(new TreePath(getCurrentPath(), call.getMethodSelect())));
                }
                return super.visitMethodInvocation(call, in);
            }

            @Override
            public Void visitNewClass(NewClassTree made, Element in) {
                madeIn(in, made.toString());
                return super.visitNewClass(made, in);
            }

            @Override
            public Void visitNewArray(NewArrayTree made, Element in) {
                madeIn(in, made.toString());
                return super.visitNewArray(made, in);
            }
        }.scan(unit, null);
        for (Element method : own) {
            int deep = depth(method, new HashSet<>());
            CHECK.holds(method.getEnclosingElement() + "." + method + ": calls " + deep + " deep", deep <= DEEPEST);
        }
        for (String name : library) {
            CHECK.holds("of the library: " + name, LIBRARY.contains(name));
        }
        CHECK.holds("methods were seen", own.size() > 100);
    }

    private static void madeIn(Element in, String what) {
        CHECK.holds(in + " makes " + what, in == null || in.getKind() == ElementKind.CONSTRUCTOR);
    }

    /** How many of the file's own methods stand open at most, this one with them; a circle is recursion. */
    private int depth(Element method, Set<Element> open) {
        if (!own.contains(method)) {
            library.add(((TypeElement) method.getEnclosingElement()).getQualifiedName() + "." + method.getSimpleName());
            return 0;
        }
        if (!open.add(method)) {
            CHECK.holds(method + " calls itself", false);
            return 0;
        }
        int deepest = 0;
        for (Element called : calls.get(method)) {
            deepest = Math.max(deepest, depth(called, open));
        }
        open.remove(method);
        return deepest + 1;
    }
}
