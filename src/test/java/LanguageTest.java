import com.sun.source.tree.BinaryTree;
import com.sun.source.tree.ClassTree;
import com.sun.source.tree.CompilationUnitTree;
import com.sun.source.tree.ForLoopTree;
import com.sun.source.tree.ImportTree;
import com.sun.source.tree.MethodInvocationTree;
import com.sun.source.tree.MethodTree;
import com.sun.source.tree.NewClassTree;
import com.sun.source.tree.Tree;
import com.sun.source.tree.VariableTree;
import com.sun.source.tree.WhileLoopTree;
import com.sun.source.util.JavacTask;
import com.sun.source.util.TreePath;
import com.sun.source.util.TreePathScanner;
import com.sun.source.util.Trees;
import java.nio.file.Path;
import java.util.ArrayDeque;
import java.util.Deque;
import java.util.EnumSet;
import java.util.Map;
import java.util.Set;
import java.util.TreeMap;
import java.util.TreeSet;
import javax.lang.model.element.Element;
import javax.lang.model.element.Modifier;
import javax.lang.model.type.TypeKind;
import javax.lang.model.type.TypeMirror;
import javax.tools.JavaCompiler;
import javax.tools.StandardJavaFileManager;
import javax.tools.ToolProvider;

/**
 * The rules of LANGUAGE.md that can be seen in the class as javac reads it. What needs a reader (that an index is
 * looked at ahead of its use, that a loop ends) is not here.
 */
public final class LanguageTest extends TreePathScanner<Void, Void> {
    private static final Checks CHECKS = new Checks();
    private static final Path CLASS = Path.of("src/main/java/PlusCodes.java");
    private static final int MOST_PARAMETERS = 7, MOST_LINES = 60, MOST_CLASSES = 12, MOST_FIELDS = 20;
    private static final int MOST_DEEP = 8, MOST_SIGN = 127;

    /** What of rule 4's library the class uses; another call has to be looked up there and written here. */
    private static final Set<String> LIBRARY = Set.of(
        "java.lang.String.indexOf", "java.lang.Integer.bitCount", "java.lang.Integer.numberOfTrailingZeros",
        "java.lang.Math.abs", "java.lang.Math.min", "java.lang.Math.max",
        "java.lang.System.arraycopy", "java.util.Arrays.fill");
    private static final Set<Tree.Kind> RULED_OUT = EnumSet.of(
        Tree.Kind.LAMBDA_EXPRESSION, Tree.Kind.MEMBER_REFERENCE, Tree.Kind.THROW, Tree.Kind.TRY, Tree.Kind.CATCH,
        Tree.Kind.SYNCHRONIZED, Tree.Kind.ASSERT, Tree.Kind.PACKAGE, Tree.Kind.ANNOTATION);
    private static final Set<String> TYPES = Set.of(
        "void", "int", "long", "short", "byte", "char", "boolean", "double", "float", "java.lang.String");

    private final Trees trees;
    private final CompilationUnitTree unit;
    private final Map<String, Set<String>> calls = new TreeMap<>();
    private final Deque<String> open = new ArrayDeque<>();
    private int classes;

    private LanguageTest(Trees trees, CompilationUnitTree unit) {
        this.trees = trees;
        this.unit = unit;
    }

    public static void main(String[] args) throws Exception {
        CHECKS.part("language");
        JavaCompiler javac = ToolProvider.getSystemJavaCompiler();
        try (StandardJavaFileManager files = javac.getStandardFileManager(null, null, null)) {
            JavacTask task = (JavacTask) javac.getTask(null, files, null, null, null, files.getJavaFileObjects(CLASS));
            CompilationUnitTree unit = task.parse().iterator().next();
            task.analyze();
            LanguageTest test = new LanguageTest(Trees.instance(task), unit);
            test.look(unit.getSourceFile().getCharContent(true).toString());
        }
        CHECKS.end();
    }

    private void look(String source) {
        CHECKS.holds("signs are 1 to 127", source.chars().allMatch(c -> c > 0 && c <= MOST_SIGN));
        CHECKS.due("classes side by side", unit.getTypeDecls().size(), 1);
        scan(unit, null);
        CHECKS.holds("so many classes: " + classes, classes > 1 && classes <= MOST_CLASSES);
        for (String method : calls.keySet()) {
            int deep = depth(method, Set.of());
            CHECKS.holds(method + " goes " + deep + " deep", deep <= MOST_DEEP);
        }
        recursions();
    }

    // ---- what stands in the file

    @Override
    public Void scan(Tree tree, Void none) {
        if (tree != null) {
            CHECKS.holds("at line " + line(tree) + " no " + tree.getKind(), !RULED_OUT.contains(tree.getKind()));
        }
        return super.scan(tree, none);
    }

    @Override
    public Void visitImport(ImportTree tree, Void none) {
        CHECKS.holds(tree.toString(), tree.getQualifiedIdentifier().toString().equals("java.util.Arrays"));
        return null;
    }

    @Override
    public Void visitClass(ClassTree tree, Void none) {
        classes++;
        boolean nested = getCurrentPath().getParentPath().getLeaf().getKind() == Tree.Kind.CLASS;
        Set<Modifier> how = tree.getModifiers().getFlags();
        CHECKS.holds(tree.getSimpleName() + " stands in a class and is static, or is the one",
            nested ? how.contains(Modifier.STATIC) : tree.getSimpleName().contentEquals("PlusCodes"));
        int fields = 0;
        for (Tree member : tree.getMembers()) {
            CHECKS.holds("no initialiser block at line " + line(member), member.getKind() != Tree.Kind.BLOCK);
            if (member instanceof VariableTree v && !v.getModifiers().getFlags().contains(Modifier.STATIC)) {
                fields++;
            }
        }
        CHECKS.holds(tree.getSimpleName() + " has some twenty fields, but has " + fields, fields <= MOST_FIELDS);
        return super.visitClass(tree, none);
    }

    @Override
    public Void visitMethod(MethodTree tree, Void none) {
        String name = nameOf(trees.getElement(getCurrentPath()));
        CHECKS.holds(name + " has seven parameters at most", tree.getParameters().size() <= MOST_PARAMETERS);
        long last = unit.getLineMap().getLineNumber(trees.getSourcePositions().getEndPosition(unit, tree));
        CHECKS.holds(name + " stays short", last - line(tree) < MOST_LINES);
        calls.putIfAbsent(name, new TreeSet<>());
        open.push(name);
        super.visitMethod(tree, none);
        open.pop();
        return null;
    }

    @Override
    public Void visitVariable(VariableTree tree, Void none) {
        Element element = trees.getElement(getCurrentPath());
        CHECKS.holds(tree.getName() + " has a type of rule 3", allowed(element.asType()));
        Set<Modifier> how = element.getModifiers();
        CHECKS.holds(tree.getName() + " is final if it is static", !how.contains(Modifier.STATIC) || how.contains(Modifier.FINAL));
        if (how.contains(Modifier.STATIC)) {
            CHECKS.holds(tree.getName() + " is written out", constant(element.asType()) && tree.getInitializer() != null);
        }
        return super.visitVariable(tree, none);
    }

    private boolean allowed(TypeMirror type) {
        String name = type.toString();
        String element = name.replace("[]", "");
        int dimensions = (name.length() - element.length()) / 2;
        return dimensions <= 2 && (TYPES.contains(element) || dimensions < 2 && element.startsWith("PlusCodes."));
    }

    private static boolean constant(TypeMirror type) {
        return Set.of("int", "long", "boolean", "char", "java.lang.String", "int[]", "long[]", "char[]", "byte[]")
            .contains(type.toString());
    }

    // ---- expressions

    @Override
    public Void visitMethodInvocation(MethodInvocationTree tree, Void none) {
        Element called = trees.getElement(new TreePath(getCurrentPath(), tree.getMethodSelect()));
        String name = nameOf(called);
        if (!name.startsWith("PlusCodes") && !name.equals("java.lang.Object.<init>")) {
            CHECKS.holds("at line " + line(tree) + " " + name + " is of the library that is left", LIBRARY.contains(name));
        }
        note(name);
        return super.visitMethodInvocation(tree, none);
    }

    @Override
    public Void visitNewClass(NewClassTree tree, Void none) {
        CHECKS.holds("no class without a name at line " + line(tree), tree.getClassBody() == null);
        String name = nameOf(trees.getElement(getCurrentPath()));
        CHECKS.holds(name + " is of the class", name.startsWith("PlusCodes."));
        CHECKS.holds("an object is made in a constructor alone, line " + line(tree), open.isEmpty() || open.peek().endsWith("<init>"));
        note(name);
        return super.visitNewClass(tree, none);
    }

    @Override
    public Void visitBinary(BinaryTree tree, Void none) {
        TypeKind left = kind(tree.getLeftOperand());
        TypeKind right = kind(tree.getRightOperand());
        CHECKS.holds("at line " + line(tree) + " numbers alone: " + tree, left.isPrimitive() && right.isPrimitive());
        return super.visitBinary(tree, none);
    }

    private TypeKind kind(Tree operand) {
        return trees.getTypeMirror(new TreePath(getCurrentPath(), operand)).getKind();
    }

    @Override
    public Void visitWhileLoop(WhileLoopTree tree, Void none) {
        CHECKS.holds("the loop at line " + line(tree) + " counts against a bound", tree.getCondition().toString().contains("<"));
        return super.visitWhileLoop(tree, none);
    }

    @Override
    public Void visitForLoop(ForLoopTree tree, Void none) {
        CHECKS.holds("the loop at line " + line(tree) + " has a bound", tree.getCondition() != null);
        CHECKS.due("the loop at line " + line(tree) + " counts", tree.getUpdate().size(), 1);
        return super.visitForLoop(tree, none);
    }

    // ---- who calls whom

    private void note(String called) {
        if (!open.isEmpty()) {
            calls.get(open.peek()).add(called);
        }
    }

    /** How many calls stand open at most, a call of what stands open already (recursion) not gone into. */
    private int depth(String method, Set<String> above) {
        int deepest = 0;
        if (!above.contains(method)) {
            Set<String> here = new TreeSet<>(above);
            here.add(method);
            for (String called : calls.getOrDefault(method, Set.of())) {
                if (!here.contains(called)) {
                    deepest = Math.max(deepest, depth(called, here));
                }
            }
        }
        return deepest + 1;
    }

    /** Rule 8: HALVES alone goes into itself, and each of its levels is one shorter. */
    private void recursions() {
        Set<String> again = new TreeSet<>();
        for (String method : calls.keySet()) {
            Set<String> reached = new TreeSet<>();
            reach(method, reached);
            if (reached.contains(method)) {
                again.add(method);
            }
        }
        CHECKS.holds("what calls itself: " + again, again.equals(Set.of("PlusCodes.Halver.wordFor")));
    }

    private void reach(String method, Set<String> all) {
        for (String called : calls.getOrDefault(method, Set.of())) {
            if (all.add(called)) {
                reach(called, all);
            }
        }
    }

    private static String nameOf(Element method) {
        return method.getEnclosingElement() + "." + method.getSimpleName();
    }

    private long line(Tree tree) {
        long start = trees.getSourcePositions().getStartPosition(unit, tree);
        return start < 0 ? 0 : unit.getLineMap().getLineNumber(start);
    }
}
