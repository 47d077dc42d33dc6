import com.sun.source.tree.*;
import com.sun.source.util.JavacTask;
import com.sun.source.util.TreePath;
import com.sun.source.util.TreePathScanner;
import com.sun.source.util.Trees;
import java.nio.file.Path;
import java.util.*;
import javax.lang.model.element.*;
import javax.lang.model.type.TypeKind;
import javax.lang.model.type.TypeMirror;
import javax.tools.StandardJavaFileManager;
import javax.tools.ToolProvider;

/** The rules of LANGUAGE.md that a program can look at: its constructs, its library, its sizes, its calls. */
final class LanguageTest extends TreePathScanner<Void, Void> {
    private static final Set<String> FACE = Set.of("NONE", "<init>", "feed", "back", "read", "place", "house", "run", "give",
        "hide", "grab", "build", "burn", "join", "undo", "becomes", "apart", "even", "soonest", "start", "wealth", "free",
        "best", "loan", "site", "rests", "tell", "forget", "fits", "span", "ago", "hold", "restore", "count");
    private static final Set<String> LIBRARY = Set.of("java.lang.Math.max", "java.lang.Math.min", "java.lang.Math.abs",
        "java.lang.String.length", "java.lang.String.charAt", "java.lang.Object.<init>");
    private static final Set<Tree.Kind> FORBIDDEN = EnumSet.of(Tree.Kind.LAMBDA_EXPRESSION, Tree.Kind.MEMBER_REFERENCE,
        Tree.Kind.THROW, Tree.Kind.TRY, Tree.Kind.CATCH, Tree.Kind.SYNCHRONIZED, Tree.Kind.ASSERT, Tree.Kind.INSTANCE_OF,
        Tree.Kind.FLOAT_LITERAL, Tree.Kind.DOUBLE_LITERAL, Tree.Kind.IMPORT, Tree.Kind.SWITCH_EXPRESSION, Tree.Kind.WHILE_LOOP,
        Tree.Kind.DO_WHILE_LOOP);

    private final Trees trees;
    private final CompilationUnitTree unit;
    private final Map<Element, Set<Element>> calls = new LinkedHashMap<>();
    private final Set<String> faceFound = new TreeSet<>();
    private int classes = 0;
    private Element method;

    private LanguageTest(Trees trees, CompilationUnitTree unit) {
        this.trees = trees;
        this.unit = unit;
    }

    public static void main(String[] args) throws Exception {
        String program = System.getProperty("program", "src/main/java/RingPurses.java");
        var compiler = ToolProvider.getSystemJavaCompiler();
        try (StandardJavaFileManager files = compiler.getStandardFileManager(null, null, null)) {
            JavacTask task = (JavacTask) compiler.getTask(null, files, null, List.of("--release", "17"), null,
                files.getJavaFileObjects(Path.of(program)));
            CompilationUnitTree unit = task.parse().iterator().next();
            task.analyze();
            LanguageTest test = new LanguageTest(Trees.instance(task), unit);
            test.scan(unit, null);
            test.lookAtWhole();
        }
        Check.end();
    }

    private void wrong(Tree tree, String what) {
        long at = trees.getSourcePositions().getStartPosition(unit, tree);
        Check.fail("line " + unit.getLineMap().getLineNumber(at) + ": " + what);
    }

    private void lookAtWhole() {
        if (unit.getPackageName() != null) Check.fail("a package line");
        Check.due("classes in the file, 12 at most", classes <= 12, true);
        Check.due("face", faceFound.equals(new TreeSet<>(FACE)), true);
        for (Element m : calls.keySet()) lookAtDepth(m, new ArrayDeque<>());
        for (Element m : calls.keySet()) {
            boolean hides = m.getModifiers().contains(Modifier.PRIVATE) && m.getKind() == ElementKind.METHOD;
            if (hides && FACE.contains(m.getSimpleName().toString())) Check.fail(m + " bears the name of a public one");
        }
    }

    private void lookAtDepth(Element m, Deque<Element> open) {
        if (open.contains(m)) {
            Check.fail("recursion in " + m);
            return;
        }
        open.addLast(m);
        if (open.size() > 8) Check.fail(open.size() + " calls deep: " + open);
        for (Element to : calls.getOrDefault(m, Set.of())) lookAtDepth(to, open);
        open.removeLast();
    }

    @Override
    public Void scan(Tree tree, Void v) {
        if (tree != null && FORBIDDEN.contains(tree.getKind())) wrong(tree, "no " + tree.getKind());
        return super.scan(tree, v);
    }

    @Override
    public Void visitClass(ClassTree c, Void v) {
        classes++;
        TypeElement element = (TypeElement) trees.getElement(getCurrentPath());
        Set<Modifier> is = element.getModifiers();
        boolean outer = element.getNestingKind() == NestingKind.TOP_LEVEL;
        if (outer && !(is.contains(Modifier.PUBLIC) && is.contains(Modifier.FINAL))) wrong(c, "not public final");
        if (!outer && (element.getNestingKind() != NestingKind.MEMBER || !is.contains(Modifier.STATIC))) wrong(c, "not static inside");
        if (!outer && (is.contains(Modifier.PUBLIC) || is.contains(Modifier.PROTECTED))) wrong(c, "seen from outside");
        int fields = 0;
        for (Element e : element.getEnclosedElements()) {
            Set<Modifier> has = e.getModifiers();
            if (e.getKind() == ElementKind.FIELD && !has.contains(Modifier.STATIC)) fields++;
            if (!outer || e.getKind() == ElementKind.CLASS) continue;
            String name = e.getSimpleName().toString();
            if (has.contains(Modifier.PUBLIC)) faceFound.add(name);
            else if (!has.contains(Modifier.PRIVATE)) wrong(c, name + " is neither public nor private");
        }
        if (fields > 20) wrong(c, fields + " fields");
        return super.visitClass(c, v);
    }

    @Override
    public Void visitBlock(BlockTree b, Void v) {
        if (getCurrentPath().getParentPath().getLeaf() instanceof ClassTree) wrong(b, "an initialiser block");
        return super.visitBlock(b, v);
    }

    @Override
    public Void visitVariable(VariableTree t, Void v) {
        Element e = trees.getElement(getCurrentPath());
        if (e.getKind() == ElementKind.FIELD && e.getModifiers().contains(Modifier.STATIC)) {
            boolean constant = ((VariableElement) e).getConstantValue() != null;
            if (!constant) wrong(t, "a static field that is no constant");
        }
        lookAtType(t, e.asType());
        return super.visitVariable(t, v);
    }

    private void lookAtType(Tree t, TypeMirror type) {
        String name = type.toString();
        boolean own = name.startsWith("RingPurses");
        String bare = own ? name.replaceAll("\\[\\]$", "") : name;
        boolean fine = own && !bare.contains("[") || Set.of("int", "long", "boolean", "char", "int[]", "long[]", "byte[]",
            "boolean[]", "java.lang.String").contains(name);
        if (!fine) wrong(t, "type " + name);
    }

    @Override
    public Void visitMethod(MethodTree m, Void v) {
        Element before = method;
        method = trees.getElement(getCurrentPath());
        calls.putIfAbsent(method, new LinkedHashSet<>());
        var places = trees.getSourcePositions();
        long lines = unit.getLineMap().getLineNumber(Math.max(0, places.getEndPosition(unit, m)))
            - unit.getLineMap().getLineNumber(places.getStartPosition(unit, m)) + 1;
        if (lines > 60) wrong(m, lines + " lines");
        if (m.getParameters().size() > 7) wrong(m, "more than seven parameters");
        super.visitMethod(m, v);
        method = before;
        return null;
    }

    @Override
    public Void visitMethodInvocation(MethodInvocationTree m, Void v) {
        note(m, trees.getElement(new TreePath(getCurrentPath(), m.getMethodSelect())));
        return super.visitMethodInvocation(m, v);
    }

    @Override
    public Void visitNewClass(NewClassTree n, Void v) {
        if (n.getClassBody() != null) wrong(n, "an anonymous class");
        made(n);
        return super.visitNewClass(n, v);
    }

    @Override
    public Void visitNewArray(NewArrayTree n, Void v) {
        made(n);
        return super.visitNewArray(n, v);
    }

    /** A stricter rule of this program's own: what it needs is made with the object, nothing by a call. */
    private void made(Tree t) {
        if (method != null && method.getKind() != ElementKind.CONSTRUCTOR) wrong(t, "made outside a constructor");
    }

    private void note(Tree t, Element called) {
        String owner = called.getEnclosingElement().toString();
        String name = owner + "." + called.getSimpleName();
        if (!owner.startsWith("RingPurses") && !LIBRARY.contains(name)) wrong(t, "calls " + name);
        if (method != null) calls.get(method).add(called);
    }

    @Override
    public Void visitBinary(BinaryTree b, Void v) {
        TypeMirror type = trees.getTypeMirror(getCurrentPath());
        if (type.getKind() == TypeKind.DECLARED) wrong(b, "texts joined by +");
        return super.visitBinary(b, v);
    }

    @Override
    public Void visitTypeCast(TypeCastTree c, Void v) {
        if (!trees.getTypeMirror(getCurrentPath()).getKind().isPrimitive()) wrong(c, "a cast among classes");
        return super.visitTypeCast(c, v);
    }
}
