import com.sun.source.tree.AssertTree;
import com.sun.source.tree.BinaryTree;
import com.sun.source.tree.BlockTree;
import com.sun.source.tree.ClassTree;
import com.sun.source.tree.CompilationUnitTree;
import com.sun.source.tree.ImportTree;
import com.sun.source.tree.LambdaExpressionTree;
import com.sun.source.tree.MemberReferenceTree;
import com.sun.source.tree.MethodInvocationTree;
import com.sun.source.tree.MethodTree;
import com.sun.source.tree.NewClassTree;
import com.sun.source.tree.SynchronizedTree;
import com.sun.source.tree.ThrowTree;
import com.sun.source.tree.Tree;
import com.sun.source.tree.TryTree;
import com.sun.source.tree.VariableTree;
import com.sun.source.util.JavacTask;
import com.sun.source.util.TreePath;
import com.sun.source.util.TreePathScanner;
import com.sun.source.util.Trees;
import java.nio.file.Path;
import java.util.HashMap;
import java.util.HashSet;
import java.util.List;
import java.util.Map;
import java.util.Set;
import java.util.TreeSet;
import javax.lang.model.element.Element;
import javax.lang.model.element.ElementKind;
import javax.lang.model.element.Modifier;
import javax.lang.model.type.TypeMirror;
import javax.tools.JavaCompiler;
import javax.tools.StandardJavaFileManager;
import javax.tools.ToolProvider;

/** LANGUAGE.md, as far as the compiler's own tree of the source can tell: rules 1 to 6, 8, 11. */
public final class LanguageTest extends TreePathScanner<Void, Void> {
    private static final int DEEPEST = 8;
    private static final Set<String> LIBRARY = Set.of(
        "String.length", "String.charAt", "String.isEmpty", "String.equals", "String.substring", "String.toCharArray",
        "StringBuilder.append", "StringBuilder.charAt", "StringBuilder.setCharAt", "StringBuilder.setLength",
        "StringBuilder.deleteCharAt", "StringBuilder.reverse", "StringBuilder.length", "StringBuilder.toString",
        "System.arraycopy", "Arrays.copyOf", "Arrays.copyOfRange", "Arrays.fill",
        "Math.max", "Math.min", "Math.abs", "Math.floorDiv", "Math.floorMod",
        "Integer.bitCount", "Integer.compare", "Integer.max", "Integer.min", "Long.compare", "Long.max", "Long.min");
    private static final Set<String> TYPES = Set.of("int", "long", "short", "byte", "char", "boolean", "double", "float",
        "java.lang.String", "java.lang.StringBuilder");

    private final Trees trees;
    // Which methods of the file each of them calls.
    private final Map<Element, Set<Element>> calls = new HashMap<>();
    private final Set<Element> face = new HashSet<>();
    private final Set<String> hidden = new TreeSet<>();
    private int classes = 0;

    private LanguageTest(Trees trees) {
        this.trees = trees;
    }

    public static void main(String[] args) throws Exception {
        JavaCompiler compiler = ToolProvider.getSystemJavaCompiler();
        try (StandardJavaFileManager files = compiler.getStandardFileManager(null, null, null)) {
            var sources = files.getJavaFileObjects(Path.of("src/main/java/HaulWages.java"));
            JavacTask task = (JavacTask) compiler.getTask(null, files, null, List.of("-proc:none"), null, sources);
            Iterable<? extends CompilationUnitTree> units = task.parse();
            task.analyze();
            LanguageTest test = new LanguageTest(Trees.instance(task));
            for (CompilationUnitTree unit : units) {
                Due.due("a package line", unit.getPackageName() == null ? 0 : 1, 0);
                test.scan(unit, null);
            }
            test.names();
            test.depths();
        }
        Due.finish();
    }

    private static void ruledOut(String what, Tree tree) {
        Due.due(what + ": " + tree, 1, 0);
    }

    private Element here() {
        return trees.getElement(getCurrentPath());
    }

    private Element methodAround() {
        for (TreePath at = getCurrentPath(); at != null; at = at.getParentPath()) {
            if (at.getLeaf() instanceof MethodTree) {
                return trees.getElement(at);
            }
        }
        return null;
    }

    private static boolean isOwn(Element e) {
        for (Element at = e; at != null; at = at.getEnclosingElement()) {
            if (at.getSimpleName().contentEquals("HaulWages")) {
                return true;
            }
        }
        return false;
    }

    @Override
    public Void visitImport(ImportTree tree, Void none) {
        ruledOut("rule 4, an import", tree);
        return null;
    }

    @Override
    public Void visitClass(ClassTree tree, Void none) {
        classes++;
        Element e = here();
        boolean outside = e.getEnclosingElement().getKind() == ElementKind.PACKAGE;
        Set<Modifier> modifiers = e.getModifiers();
        if (outside) {
            Due.due("rule 1, public and final", modifiers.equals(Set.of(Modifier.PUBLIC, Modifier.FINAL)) ? 1 : 0, 1);
        } else {
            boolean open = modifiers.contains(Modifier.PUBLIC) || modifiers.contains(Modifier.PROTECTED);
            Due.due("rule 1, not public: " + e, open ? 1 : 0, 0);
            Due.due("rule 2, static: " + e, modifiers.contains(Modifier.STATIC) ? 1 : 0, 1);
            Due.due("rule 2, no local class: " + e, e.getEnclosingElement().getKind().isClass() ? 1 : 0, 1);
        }
        Due.due("rule 11, some twelve classes", classes <= 12 ? 1 : 0, 1);
        return super.visitClass(tree, none);
    }

    @Override
    public Void visitMethod(MethodTree tree, Void none) {
        Element e = here();
        calls.putIfAbsent(e, new HashSet<>());
        if (e.getModifiers().contains(Modifier.PUBLIC)) {
            face.add(e);
        } else if (e.getKind() == ElementKind.METHOD) {
            hidden.add(e.getSimpleName().toString());
        }
        Due.due("rule 11, seven parameters: " + e, tree.getParameters().size() <= 7 ? 1 : 0, 1);
        boolean ofObject = Set.of("equals", "hashCode", "toString").contains(e.getSimpleName().toString());
        Due.due("rule 6, a method of Object's: " + e, ofObject ? 1 : 0, 0);
        return super.visitMethod(tree, none);
    }

    @Override
    public Void visitVariable(VariableTree tree, Void none) {
        TypeMirror type = here().asType();
        String name = type.toString();
        String bare = name.replace("[]", "");
        boolean own = bare.startsWith("HaulWages");
        int dimensions = (name.length() - bare.length()) / 2;
        Due.due("rule 3, the type of " + tree, own || TYPES.contains(bare) ? 1 : 0, 1);
        Due.due("rule 3, the dimensions of " + tree, dimensions <= (own ? 1 : 2) ? 1 : 0, 1);
        if (here().getModifiers().contains(Modifier.STATIC)) {
            Due.due("rule 5, final: " + tree, here().getModifiers().contains(Modifier.FINAL) ? 1 : 0, 1);
        }
        return super.visitVariable(tree, none);
    }

    @Override
    public Void visitBlock(BlockTree tree, Void none) {
        if (tree.isStatic()) {
            ruledOut("rule 5, a static block", tree);
        }
        return super.visitBlock(tree, none);
    }

    @Override
    public Void visitMethodInvocation(MethodInvocationTree tree, Void none) {
        Element called = here();
        if (isOwn(called)) {
            calls.computeIfAbsent(methodAround(), m -> new HashSet<>()).add(called);
        } else if (!called.getSimpleName().contentEquals("<init>")) {
            String name = called.getEnclosingElement().getSimpleName() + "." + called.getSimpleName();
            boolean copy = name.endsWith(".clone");
            Due.due("rule 4, the library: " + name, copy || LIBRARY.contains(name) ? 1 : 0, 1);
        }
        return super.visitMethodInvocation(tree, none);
    }

    @Override
    public Void visitNewClass(NewClassTree tree, Void none) {
        if (tree.getClassBody() != null) {
            ruledOut("rule 2, an anonymous class", tree);
        }
        Due.due("rule 4, an object of the library: " + tree, isOwn(here()) ? 1 : 0, 1);
        return super.visitNewClass(tree, none);
    }

    @Override
    public Void visitBinary(BinaryTree tree, Void none) {
        boolean joins = tree.getKind() == Tree.Kind.PLUS;
        boolean compares = tree.getKind() == Tree.Kind.EQUAL_TO || tree.getKind() == Tree.Kind.NOT_EQUAL_TO;
        if (joins || compares) {
            Due.due("rules 6, 10, texts: " + tree, isText(tree.getLeftOperand()) || isText(tree.getRightOperand()) ? 1 : 0, 0);
        }
        return super.visitBinary(tree, none);
    }

    private boolean isText(Tree tree) {
        TypeMirror type = trees.getTypeMirror(new TreePath(getCurrentPath(), tree));
        return type != null && type.toString().equals("java.lang.String");
    }

    @Override
    public Void visitThrow(ThrowTree tree, Void none) {
        ruledOut("rule 6", tree);
        return null;
    }

    @Override
    public Void visitTry(TryTree tree, Void none) {
        ruledOut("rule 6", tree);
        return null;
    }

    @Override
    public Void visitSynchronized(SynchronizedTree tree, Void none) {
        ruledOut("rule 6", tree);
        return null;
    }

    @Override
    public Void visitAssert(AssertTree tree, Void none) {
        ruledOut("rule 6", tree);
        return null;
    }

    @Override
    public Void visitLambdaExpression(LambdaExpressionTree tree, Void none) {
        ruledOut("rule 2", tree);
        return null;
    }

    @Override
    public Void visitMemberReference(MemberReferenceTree tree, Void none) {
        ruledOut("rule 2", tree);
        return null;
    }

    private void names() {
        for (Element e : face) {
            String name = e.getSimpleName().toString();
            Due.due("rule 1, a private method with a public one's name: " + name, hidden.contains(name) ? 1 : 0, 0);
        }
    }

    /** No method calls itself by any way here, so each chain of calls has an end, and it is not deep. */
    private void depths() {
        Due.due("the methods were found", calls.size() > face.size() && face.size() > 40 ? 1 : 0, 1);
        for (Element e : calls.keySet()) {
            int deep = depth(e, 1);
            Due.due("rules 8, 11, calls from " + e + " on: " + deep, deep <= DEEPEST ? 1 : 0, 1);
        }
    }

    private int depth(Element e, int level) {
        int deepest = level;
        if (level <= DEEPEST) {
            for (Element next : calls.getOrDefault(e, Set.of())) {
                deepest = Math.max(deepest, depth(next, level + 1));
            }
        }
        return deepest;
    }
}
