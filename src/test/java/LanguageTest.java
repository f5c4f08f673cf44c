import com.sun.source.tree.AssertTree;
import com.sun.source.tree.BlockTree;
import com.sun.source.tree.ClassTree;
import com.sun.source.tree.CompilationUnitTree;
import com.sun.source.tree.ImportTree;
import com.sun.source.tree.LambdaExpressionTree;
import com.sun.source.tree.MemberReferenceTree;
import com.sun.source.tree.MethodInvocationTree;
import com.sun.source.tree.MethodTree;
import com.sun.source.tree.NewArrayTree;
import com.sun.source.tree.NewClassTree;
import com.sun.source.tree.SynchronizedTree;
import com.sun.source.tree.Tree;
import com.sun.source.tree.TryTree;
import com.sun.source.tree.VariableTree;
import com.sun.source.util.JavacTask;
import com.sun.source.util.TreePathScanner;
import com.sun.source.util.Trees;
import java.nio.charset.StandardCharsets;
import java.nio.file.Files;
import java.nio.file.Path;
import java.util.ArrayList;
import java.util.HashMap;
import java.util.HashSet;
import java.util.LinkedHashSet;
import java.util.List;
import java.util.Map;
import java.util.Set;
import javax.lang.model.element.Element;
import javax.lang.model.element.ElementKind;
import javax.lang.model.element.Modifier;
import javax.tools.JavaCompiler;
import javax.tools.JavaFileObject;
import javax.tools.StandardJavaFileManager;
import javax.tools.ToolProvider;

/**
 * The rules of ../shared/LANGUAGE.md, for promises 1 to 53 alike: what can be seen in the text of
 * the class. It is stricter than the rules where the class needs less than they allow.
 */
public final class LanguageTest extends TreePathScanner<Void, Void> {
    private static final Path CLASS = Path.of("src/main/java/StreamersHeld.java");
    private static final Set<String> LIBRARY = Set.of("Math.max", "Math.min", "Math.abs",
        "Integer.bitCount", "Long.bitCount");
    private static final int MOST_DEEP = 8;

    private final Trees trees;
    private final CompilationUnitTree unit;
    private final Map<Element, Set<Element>> calls = new HashMap<>();
    private final Map<Element, Integer> depths = new HashMap<>();
    private final Set<Element> open = new LinkedHashSet<>();
    private final Set<String> openNames = new HashSet<>();
    private final List<Element> hidden = new ArrayList<>();
    private Element method;
    private int classes;

    private LanguageTest(Trees trees, CompilationUnitTree unit) {
        this.trees = trees;
        this.unit = unit;
    }

    public static void main(String[] args) throws Exception {
        signs();
        JavaCompiler compiler = ToolProvider.getSystemJavaCompiler();
        StandardJavaFileManager files =
            compiler.getStandardFileManager(null, null, StandardCharsets.UTF_8);
        Iterable<? extends JavaFileObject> sources = files.getJavaFileObjects(CLASS.toFile());
        JavacTask task = (JavacTask) compiler.getTask(null, files, null, null, null, sources);
        CompilationUnitTree unit = task.parse().iterator().next();
        task.analyze();
        LanguageTest test = new LanguageTest(Trees.instance(task), unit);
        test.scan(unit, null);
        test.close();
        Check.close("LanguageTest");
    }

    private static void not(int rule, String what, boolean wrong) {
        Check.that("rule " + rule + ": " + what, wrong, false);
    }

    private static void signs() throws Exception {
        for (byte sign : Files.readAllBytes(CLASS)) {
            if (sign != '\n' && (sign < ' ' || sign > '~')) {
                not(4, "sign " + sign, true);
            }
        }
    }

    private void close() {
        not(11, "classes: " + classes, classes > 12);
        for (Element one : hidden) {
            not(1, one + " bears a public one's name",
                openNames.contains(one.getSimpleName().toString()));
        }
        for (Element one : calls.keySet()) {
            not(11, one + " goes deep: " + depth(one), depth(one) > MOST_DEEP);
        }
    }

    /** How many calls stand open at most from one on, itself the first. */
    private int depth(Element one) {
        if (depths.containsKey(one)) {
            return depths.get(one);
        }
        boolean again = !open.add(one);
        not(8, one + " calls itself", again);
        int deepest = 0;
        for (Element called : again ? Set.<Element>of() : calls.getOrDefault(one, Set.of())) {
            deepest = Math.max(deepest, depth(called));
        }
        open.remove(one);
        depths.put(one, deepest + 1);
        return deepest + 1;
    }

    private Element here() {
        return trees.getElement(getCurrentPath());
    }

    private int lines(Tree tree) {
        long from = trees.getSourcePositions().getStartPosition(unit, tree);
        long to = trees.getSourcePositions().getEndPosition(unit, tree);
        return (int) (unit.getLineMap().getLineNumber(to) - unit.getLineMap().getLineNumber(from))
            + 1;
    }

    @Override
    public Void visitCompilationUnit(CompilationUnitTree tree, Void v) {
        not(1, "a package line", tree.getPackage() != null);
        not(1, "more than one class in the file", tree.getTypeDecls().size() != 1);
        return super.visitCompilationUnit(tree, v);
    }

    @Override
    public Void visitImport(ImportTree tree, Void v) {
        String name = tree.getQualifiedIdentifier().toString();
        not(4, "import " + name, !name.equals("java.util.NoSuchElementException"));
        return super.visitImport(tree, v);
    }

    @Override
    public Void visitClass(ClassTree tree, Void v) {
        Element one = here();
        classes++;
        boolean isFace = one.toString().equals("StreamersHeld");
        not(2, one + " is not static", !isFace && !one.getModifiers().contains(Modifier.STATIC));
        not(1, one + " is public", !isFace && one.getModifiers().contains(Modifier.PUBLIC));
        int fields = 0;
        for (Tree member : tree.getMembers()) {
            boolean field = member instanceof VariableTree;
            if (field && !((VariableTree) member).getModifiers().getFlags()
                    .contains(Modifier.STATIC)) {
                fields++;
            }
            not(5, one + " has a block", member instanceof BlockTree);
        }
        not(11, one + " has fields: " + fields, fields > 20);
        return super.visitClass(tree, v);
    }

    @Override
    public Void visitVariable(VariableTree tree, Void v) {
        Element one = here();
        Set<Modifier> flags = one.getModifiers();
        if (flags.contains(Modifier.STATIC)) {
            not(5, one + " is not final", !flags.contains(Modifier.FINAL));
            not(5, one + " is no constant", ((javax.lang.model.element.VariableElement) one)
                .getConstantValue() == null);
        }
        if (one.getKind() == ElementKind.FIELD && !flags.contains(Modifier.PRIVATE)) {
            not(1, "field " + one, !one.toString().equals("NONE"));
        }
        return super.visitVariable(tree, v);
    }

    @Override
    public Void visitMethod(MethodTree tree, Void v) {
        Element outer = method;
        method = here();
        calls.putIfAbsent(method, new LinkedHashSet<>());
        not(11, method + " has lines: " + lines(tree), lines(tree) > 60);
        not(11, method + " has parameters", tree.getParameters().size() > 7);
        if (method.getModifiers().contains(Modifier.PUBLIC)) {
            openNames.add(method.getSimpleName().toString());
        } else if (method.getKind() == ElementKind.METHOD) {
            hidden.add(method);
        }
        super.visitMethod(tree, v);
        method = outer;
        return null;
    }

    @Override
    public Void visitMethodInvocation(MethodInvocationTree tree, Void v) {
        Element called = here();
        String owner = called.getEnclosingElement().getSimpleName().toString();
        boolean own = called.getEnclosingElement().toString().startsWith("StreamersHeld");
        boolean constructor = called.getKind() == ElementKind.CONSTRUCTOR;
        if (own && method != null) {
            calls.computeIfAbsent(method, m -> new LinkedHashSet<>()).add(called);
        }
        not(4, owner + "." + called, !own && !constructor
            && !LIBRARY.contains(owner + "." + called.getSimpleName()));
        return super.visitMethodInvocation(tree, v);
    }

    @Override
    public Void visitNewClass(NewClassTree tree, Void v) {
        String name = tree.getIdentifier().toString();
        not(2, "a class without a name", tree.getClassBody() != null);
        if (name.equals("NoSuchElementException")) {
            String in = String.valueOf(method);
            not(6, "an exception in " + in, !in.equals("streamer(int,int)")
                && !in.equals("row(int)"));
        } else {
            not(12, "new " + name + " by " + method, method != null);
        }
        return super.visitNewClass(tree, v);
    }

    @Override
    public Void visitNewArray(NewArrayTree tree, Void v) {
        not(12, "a new array by " + method, method != null);
        return super.visitNewArray(tree, v);
    }

    @Override
    public Void visitTry(TryTree tree, Void v) {
        not(6, "try", true);
        return super.visitTry(tree, v);
    }

    @Override
    public Void visitLambdaExpression(LambdaExpressionTree tree, Void v) {
        not(2, "a lambda", true);
        return super.visitLambdaExpression(tree, v);
    }

    @Override
    public Void visitMemberReference(MemberReferenceTree tree, Void v) {
        not(2, "a method reference", true);
        return super.visitMemberReference(tree, v);
    }

    @Override
    public Void visitSynchronized(SynchronizedTree tree, Void v) {
        not(6, "synchronized", true);
        return super.visitSynchronized(tree, v);
    }

    @Override
    public Void visitAssert(AssertTree tree, Void v) {
        not(6, "assert", true);
        return super.visitAssert(tree, v);
    }
}
