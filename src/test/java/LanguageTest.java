import com.sun.source.tree.AssertTree;
import com.sun.source.tree.BinaryTree;
import com.sun.source.tree.ClassTree;
import com.sun.source.tree.CompilationUnitTree;
import com.sun.source.tree.LambdaExpressionTree;
import com.sun.source.tree.MemberReferenceTree;
import com.sun.source.tree.MemberSelectTree;
import com.sun.source.tree.MethodInvocationTree;
import com.sun.source.tree.MethodTree;
import com.sun.source.tree.NewClassTree;
import com.sun.source.tree.SynchronizedTree;
import com.sun.source.tree.ThrowTree;
import com.sun.source.tree.Tree;
import com.sun.source.tree.TryTree;
import com.sun.source.tree.VariableTree;
import com.sun.source.util.JavacTask;
import com.sun.source.util.SourcePositions;
import com.sun.source.util.TreePathScanner;
import com.sun.source.util.Trees;
import java.io.File;
import java.io.IOException;
import java.nio.file.Files;
import java.nio.file.Path;
import java.util.HashMap;
import java.util.List;
import java.util.Map;
import java.util.Set;
import java.util.TreeSet;
import javax.lang.model.element.Element;
import javax.lang.model.element.ElementKind;
import javax.lang.model.element.ExecutableElement;
import javax.lang.model.element.Modifier;
import javax.lang.model.element.TypeElement;
import javax.lang.model.type.TypeKind;
import javax.tools.JavaCompiler;
import javax.tools.StandardJavaFileManager;
import javax.tools.ToolProvider;

/** The rules of LANGUAGE.md that can be read off the source. */
final class LanguageTest extends TreePathScanner<Void, Void> {
    private static final Set<String> LIBRARY = Set.of("java.util.ArrayList.add", "java.util.ArrayList.get",
        "java.util.ArrayList.size", "java.util.ArrayList.isEmpty", "java.util.ArrayList.clear", "java.lang.Math.min",
        "java.lang.Math.max", "java.lang.Math.abs", "java.lang.System.arraycopy", "java.util.Arrays.fill");
    private static final int DEEPEST = 8;

    private final Trees trees;
    private final SourcePositions positions;
    private final CompilationUnitTree unit;
    private final Set<String> publicNames = new TreeSet<>();
    private final Set<String> privateNames = new TreeSet<>();
    private final Map<String, Set<String>> calls = new HashMap<>();
    private String method = "";
    private int classes = 0;
    private int broken = 0;

    private LanguageTest(Trees trees, CompilationUnitTree unit) {
        this.trees = trees;
        this.positions = trees.getSourcePositions();
        this.unit = unit;
    }

    static void run(String program) throws IOException {
        JavaCompiler compiler = ToolProvider.getSystemJavaCompiler();
        StandardJavaFileManager files = compiler.getStandardFileManager(null, null, null);
        JavacTask task = (JavacTask) compiler.getTask(null, files, null, null, null,
            files.getJavaFileObjects(new File(program)));
        CompilationUnitTree unit = task.parse().iterator().next();
        task.analyze();
        LanguageTest test = new LanguageTest(Trees.instance(task), unit);
        test.scan(unit, null);
        test.checkNames();
        test.checkDepth();
        test.checkFace(program);
        Checks.due("rules broken", test.broken, 0);
        bytesAreAscii(program);
    }

    private static void bytesAreAscii(String program) throws IOException {
        int other = 0;
        for (byte b : Files.readAllBytes(Path.of(program))) {
            other += b == '\n' || b >= 32 && b < 127 ? 0 : 1;
        }
        Checks.due("bytes that are neither ASCII nor a line's end", other, 0);
    }

    private void broken(int rule, String what, Tree at) {
        broken++;
        System.out.println("rule " + rule + ", line " + unit.getLineMap().getLineNumber(start(at)) + ": " + what);
    }

    private long start(Tree tree) {
        return Math.max(0, positions.getStartPosition(unit, tree));
    }

    private long lines(Tree tree) {
        return unit.getLineMap().getLineNumber(positions.getEndPosition(unit, tree))
            - unit.getLineMap().getLineNumber(start(tree)) + 1;
    }

    @Override
    public Void visitClass(ClassTree c, Void v) {
        classes++;
        if (classes > 12) broken(11, "class " + classes, c);
        Element element = trees.getElement(getCurrentPath());
        boolean outer = element.getEnclosingElement().getKind() == ElementKind.PACKAGE;
        if (!outer && !element.getModifiers().contains(Modifier.STATIC)) broken(2, "a class that is not static", c);
        int fields = 0;
        for (Tree member : c.getMembers()) {
            if (!(member instanceof VariableTree f)) continue;
            boolean isStatic = f.getModifiers().getFlags().contains(Modifier.STATIC);
            if (isStatic && !f.getModifiers().getFlags().contains(Modifier.FINAL)) broken(5, "a static field", f);
            fields += isStatic ? 0 : 1;
            Set<Modifier> flags = f.getModifiers().getFlags();
            if (outer && !flags.contains(Modifier.PRIVATE) && !flags.contains(Modifier.PUBLIC)) broken(1, "a field", f);
        }
        if (fields > 20) broken(11, fields + " fields", c);
        // What stands beside the methods is called by the constructor.
        String before = method;
        method = ((TypeElement) element).getQualifiedName() + ".<init>";
        calls.computeIfAbsent(method, k -> new TreeSet<>());
        super.visitClass(c, v);
        method = before;
        return null;
    }

    @Override
    public Void visitMethod(MethodTree m, Void v) {
        ExecutableElement element = (ExecutableElement) trees.getElement(getCurrentPath());
        Element owner = element.getEnclosingElement();
        boolean outer = owner.getEnclosingElement().getKind() == ElementKind.PACKAGE;
        if (m.getParameters().size() > 7) broken(11, "more than seven parameters", m);
        if (m.getBody() != null && lines(m) > 60) broken(11, m.getName() + " is long", m);
        if (outer && element.getModifiers().contains(Modifier.PUBLIC)) {
            publicNames.add(m.getName().toString());
        } else {
            privateNames.add(m.getName().toString());
            if (outer && !element.getModifiers().contains(Modifier.PRIVATE)) broken(1, "a method of the face", m);
        }
        String before = method;
        method = nameOf(element);
        calls.computeIfAbsent(method, k -> new TreeSet<>());
        super.visitMethod(m, v);
        method = before;
        return null;
    }

    private static String nameOf(Element method) {
        return ((TypeElement) method.getEnclosingElement()).getQualifiedName() + "." + method.getSimpleName();
    }

    @Override
    public Void visitMethodInvocation(MethodInvocationTree m, Void v) {
        Element element = trees.getElement(getCurrentPath());
        String name = nameOf(element);
        boolean ofArray = m.getMethodSelect() instanceof MemberSelectTree s && s.getIdentifier().contentEquals("clone");
        if (name.startsWith("SkipCity")) {
            calls.computeIfAbsent(method, k -> new TreeSet<>()).add(name);
        } else if (!LIBRARY.contains(name) && !ofArray && !name.equals("java.lang.Object.<init>")) {
            broken(4, name, m);
        }
        return super.visitMethodInvocation(m, v);
    }

    @Override
    public Void visitNewClass(NewClassTree n, Void v) {
        if (n.getClassBody() != null) broken(2, "an anonymous class", n);
        Element element = trees.getElement(getCurrentPath());
        String name = nameOf(element);
        if (name.startsWith("SkipCity")) {
            calls.computeIfAbsent(method, k -> new TreeSet<>()).add(name);
        } else if (!name.equals("java.util.ArrayList.<init>")) {
            broken(4, name, n);
        }
        return super.visitNewClass(n, v);
    }

    @Override
    public Void visitBinary(BinaryTree b, Void v) {
        if (b.getKind() == Tree.Kind.PLUS && trees.getTypeMirror(getCurrentPath()).getKind() == TypeKind.DECLARED) {
            broken(10, "texts are joined by +", b);
        }
        return super.visitBinary(b, v);
    }

    @Override
    public Void visitThrow(ThrowTree t, Void v) {
        broken(6, "throw", t);
        return super.visitThrow(t, v);
    }

    @Override
    public Void visitTry(TryTree t, Void v) {
        broken(6, "try", t);
        return super.visitTry(t, v);
    }

    @Override
    public Void visitAssert(AssertTree t, Void v) {
        broken(6, "assert", t);
        return super.visitAssert(t, v);
    }

    @Override
    public Void visitSynchronized(SynchronizedTree t, Void v) {
        broken(6, "synchronized", t);
        return super.visitSynchronized(t, v);
    }

    @Override
    public Void visitLambdaExpression(LambdaExpressionTree t, Void v) {
        broken(2, "a lambda", t);
        return super.visitLambdaExpression(t, v);
    }

    @Override
    public Void visitMemberReference(MemberReferenceTree t, Void v) {
        broken(2, "a method reference", t);
        return super.visitMemberReference(t, v);
    }

    private void checkNames() {
        for (String name : privateNames) {
            if (publicNames.contains(name) && !name.equals("<init>")) broken(1, name + " is a name of the face", unit);
        }
    }

    /** Methods that stand in for abstract ones are counted with them, by their names. */
    private void checkDepth() {
        int deepest = 0;
        for (String name : calls.keySet()) {
            deepest = Math.max(deepest, depth(name, 1));
        }
        Checks.due("calls are at most eight deep", Math.max(deepest, DEEPEST), DEEPEST);
    }

    private int depth(String name, int so) {
        if (so > 40) {
            broken(8, "recursion through " + name, unit);
            return so;
        }
        int deepest = so;
        String last = name.substring(name.lastIndexOf('.'));
        for (String like : calls.keySet()) {
            if (!like.equals(name) && !(like.endsWith(last) && !last.equals(".<init>"))) continue;
            for (String called : calls.get(like)) {
                deepest = Math.max(deepest, depth(called, so + 1));
            }
        }
        return deepest;
    }

    /** Every line of the document's face has its member. */
    private void checkFace(String program) throws IOException {
        List<String> doc = Files.readAllLines(Path.of("../shared/DOC.md"));
        Set<String> told = new TreeSet<>();
        int from = doc.indexOf("public final class SkipCity {");
        for (int i = from + 1; !doc.get(i).equals("}"); i++) {
            told.add(doc.get(i).trim().replace(";", ""));
        }
        String source = Files.readString(Path.of(program));
        for (String line : told) {
            Checks.due("the face has " + line, source.contains("\n    " + line) ? 1 : 0, 1);
        }
        Checks.due("the face has no more methods", publicNames.size(), told.size() - 1);
    }
}
