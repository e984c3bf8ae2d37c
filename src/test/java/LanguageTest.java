import com.sun.source.tree.BinaryTree;
import com.sun.source.tree.ClassTree;
import com.sun.source.tree.CompilationUnitTree;
import com.sun.source.tree.MethodInvocationTree;
import com.sun.source.tree.MethodTree;
import com.sun.source.tree.NewClassTree;
import com.sun.source.tree.Tree;
import com.sun.source.tree.VariableTree;
import com.sun.source.util.JavacTask;
import com.sun.source.util.TreePath;
import com.sun.source.util.TreePathScanner;
import com.sun.source.util.Trees;
import java.io.File;
import java.util.ArrayList;
import java.util.HashMap;
import java.util.HashSet;
import java.util.List;
import java.util.Map;
import java.util.Set;
import java.util.TreeSet;
import javax.lang.model.element.Element;
import javax.lang.model.element.Modifier;
import javax.tools.JavaCompiler;
import javax.tools.StandardJavaFileManager;
import javax.tools.ToolProvider;

/** Those rules of ../shared/LANGUAGE.md that can be counted: what stands in the class, how long, how deep. */
final class LanguageTest extends TreePathScanner<Void, Void> {
    private static final String SOURCE = "src/main/java/GlassesOfRue.java";
    private static final Set<String> LIBRARY = Set.of(
        "java.lang.Math.max", "java.lang.Math.min", "java.lang.Integer.bitCount", "java.lang.String.length",
        "java.lang.String.charAt", "java.lang.String.indexOf", "java.lang.System.arraycopy", "java.util.Arrays.fill");
    private static final Set<Tree.Kind> FORBIDDEN = Set.of(
        Tree.Kind.THROW, Tree.Kind.TRY, Tree.Kind.CATCH, Tree.Kind.SYNCHRONIZED, Tree.Kind.ASSERT,
        Tree.Kind.LAMBDA_EXPRESSION, Tree.Kind.MEMBER_REFERENCE, Tree.Kind.INSTANCE_OF, Tree.Kind.SWITCH_EXPRESSION,
        Tree.Kind.ENUM, Tree.Kind.INTERFACE, Tree.Kind.RECORD);

    private final CompilationUnitTree unit;
    private final Trees trees;
    private final Map<Element, Set<Element>> calls = new HashMap<>();
    private final Set<String> publicNames = new HashSet<>();
    private final List<String> otherNames = new ArrayList<>();
    private final Set<String> members = new TreeSet<>();
    private int classes = 0;
    private Element method = null;

    private LanguageTest(CompilationUnitTree unit, Trees trees) {
        this.unit = unit;
        this.trees = trees;
    }

    public static void main(String[] args) throws Exception {
        JavaCompiler compiler = ToolProvider.getSystemJavaCompiler();
        StandardJavaFileManager files = compiler.getStandardFileManager(null, null, null);
        JavacTask task = (JavacTask) compiler.getTask(null, files, null, List.of("-proc:none"), null,
            files.getJavaFileObjects(new File(SOURCE)));
        CompilationUnitTree unit = task.parse().iterator().next();
        task.analyze();
        LanguageTest test = new LanguageTest(unit, Trees.instance(task));
        test.scan(unit, null);
        test.judge();
        Check.finish();
    }

    private void judge() {
        Check.due("classes: some twelve", Math.max(12, classes), 12);
        for (String name : otherNames) {
            Check.due("a name of the face: " + name, publicNames.contains(name) ? 1 : 0, 0);
        }
        Check.due("members of the face: " + members, members.size(), 26 + 5 + 1);
        for (Element m : calls.keySet()) {
            int deep = depth(m);
            Check.due("calls from " + m + " go " + deep + " deep", Math.max(8, deep), 8);
        }
    }

    /** Calls that are no recursion: those that call one another count as one. */
    private int depth(Element m) {
        Set<Element> ring = new HashSet<>();
        ring.add(m);
        for (Element other : calls.keySet()) {
            if (reaches(m, other, new HashSet<>()) && reaches(other, m, new HashSet<>())) {
                ring.add(other);
            }
        }
        int most = 0;
        for (Element r : ring) {
            for (Element next : calls.getOrDefault(r, Set.of())) {
                if (!ring.contains(next)) {
                    most = Math.max(most, depth(next));
                }
            }
        }
        return most + 1;
    }

    private boolean reaches(Element from, Element to, Set<Element> seen) {
        for (Element next : calls.getOrDefault(from, Set.of())) {
            if (next.equals(to) || seen.add(next) && reaches(next, to, seen)) {
                return true;
            }
        }
        return false;
    }

    @Override
    public Void scan(Tree tree, Void none) {
        if (tree != null) {
            Check.due(tree.getKind() + " at line " + line(tree), FORBIDDEN.contains(tree.getKind()) ? 1 : 0, 0);
        }
        return super.scan(tree, none);
    }

    @Override
    public Void visitClass(ClassTree tree, Void none) {
        classes++;
        boolean inside = classes > 1;
        Set<Modifier> flags = tree.getModifiers().getFlags();
        if (inside) {
            Check.due(tree.getSimpleName() + " is static", flags.contains(Modifier.STATIC) ? 1 : 0, 1);
        }
        int fields = 0;
        for (Tree member : tree.getMembers()) {
            if (member instanceof VariableTree field) {
                Set<Modifier> f = field.getModifiers().getFlags();
                fields += f.contains(Modifier.STATIC) ? 0 : 1;
                Check.due(field.getName() + ": a static field is final",
                    f.contains(Modifier.STATIC) && !f.contains(Modifier.FINAL) ? 1 : 0, 0);
                if (!inside && !f.contains(Modifier.PRIVATE)) {
                    members.add(field.getName().toString());
                }
            }
            Check.due("no block stands in " + tree.getSimpleName(), member.getKind() == Tree.Kind.BLOCK ? 1 : 0, 0);
        }
        Check.due("fields of " + tree.getSimpleName(), Math.max(20, fields), 20);
        return super.visitClass(tree, none);
    }

    @Override
    public Void visitMethod(MethodTree tree, Void none) {
        Element before = method;
        method = trees.getElement(getCurrentPath());
        calls.computeIfAbsent(method, m -> new HashSet<>());
        String name = tree.getName().toString();
        boolean face = method.getEnclosingElement().getEnclosingElement().getSimpleName().length() == 0;
        if (face && !tree.getModifiers().getFlags().contains(Modifier.PRIVATE)) {
            members.add(name + "()");
            publicNames.add(name);
        } else if (!name.equals("<init>")) {
            otherNames.add(name);
        }
        long end = trees.getSourcePositions().getEndPosition(unit, tree);
        long lines = unit.getLineMap().getLineNumber(end) - line(tree) + 1;
        Check.due("lines of " + name, Math.max(60, lines), 60);
        Check.due("parameters of " + name, Math.max(7, tree.getParameters().size()), 7);
        super.visitMethod(tree, none);
        method = before;
        return null;
    }

    @Override
    public Void visitMethodInvocation(MethodInvocationTree tree, Void none) {
        call(trees.getElement(getCurrentPath()));
        return super.visitMethodInvocation(tree, none);
    }

    @Override
    public Void visitNewClass(NewClassTree tree, Void none) {
        call(trees.getElement(getCurrentPath()));
        return super.visitNewClass(tree, none);
    }

    private void call(Element called) {
        String owner = called.getEnclosingElement().toString();
        String name = owner + "." + called.getSimpleName();
        boolean object = name.equals("java.lang.Object.<init>");
        boolean own = owner.startsWith("GlassesOfRue");
        Check.due("the library's " + name, own || object || LIBRARY.contains(name) ? 1 : 0, 1);
        if (method != null && !object) {
            calls.computeIfAbsent(method, m -> new HashSet<>()).add(called);
        }
    }

    @Override
    public Void visitBinary(BinaryTree tree, Void none) {
        boolean text = trees.getTypeMirror(new TreePath(getCurrentPath(), tree.getLeftOperand())).toString().equals("java.lang.String")
            || trees.getTypeMirror(new TreePath(getCurrentPath(), tree.getRightOperand())).toString().equals("java.lang.String");
        Check.due("a text in " + tree.getKind() + " at line " + line(tree), text ? 1 : 0, 0);
        return super.visitBinary(tree, none);
    }

    private long line(Tree tree) {
        long start = trees.getSourcePositions().getStartPosition(unit, tree);
        return start < 0 ? 0 : unit.getLineMap().getLineNumber(start);
    }
}
