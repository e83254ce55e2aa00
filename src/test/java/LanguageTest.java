import com.sun.source.tree.ArrayAccessTree;
import com.sun.source.tree.AssignmentTree;
import com.sun.source.tree.BlockTree;
import com.sun.source.tree.ClassTree;
import com.sun.source.tree.CompilationUnitTree;
import com.sun.source.tree.CompoundAssignmentTree;
import com.sun.source.tree.MethodInvocationTree;
import com.sun.source.tree.MethodTree;
import com.sun.source.tree.NewArrayTree;
import com.sun.source.tree.NewClassTree;
import com.sun.source.tree.Tree;
import com.sun.source.tree.UnaryTree;
import com.sun.source.tree.VariableTree;
import com.sun.source.util.JavacTask;
import com.sun.source.util.TreePath;
import com.sun.source.util.TreePathScanner;
import com.sun.source.util.Trees;
import java.io.IOException;
import java.nio.file.Path;
import java.util.EnumSet;
import java.util.HashMap;
import java.util.HashSet;
import java.util.LinkedHashMap;
import java.util.LinkedHashSet;
import java.util.List;
import java.util.Map;
import java.util.Set;
import javax.lang.model.element.Element;
import javax.lang.model.element.ElementKind;
import javax.lang.model.element.Modifier;
import javax.lang.model.type.TypeMirror;
import javax.tools.JavaCompiler;
import javax.tools.StandardJavaFileManager;
import javax.tools.ToolProvider;

/**
 * The rules of LANGUAGE.md that can be seen in the program's text, looked at in the compiler's tree of it.
 * Some of what the rules allow is refused too, because the program does without it: exceptions, texts, lists,
 * and objects made outside a constructor, of which a run of calls would heap up too many.
 */
public final class LanguageTest extends TreePathScanner<Void, Void> {
    private static final Path PROGRAM = Path.of("src/main/java/TwinTables.java");
    private static final int MOST_PARAMETERS = 7, MOST_LINES = 60, MOST_DEEP = 8, MOST_CLASSES = 12, MOST_FIELDS = 20;
    private static final Set<String> LIBRARY = Set.of("java.lang.Object.<init>", "java.lang.System.arraycopy");
    private static final Set<String> TYPES = Set.of("int", "long", "byte", "char", "boolean", "int[]", "byte[]");
    private static final Set<String> CONSTANTS = Set.of("int", "long", "boolean", "char");
    private static final Set<String> CONSTANT_ROWS = Set.of("int[]", "long[]", "char[]", "byte[]");
    private static final Set<Tree.Kind> REFUSED = EnumSet.of(Tree.Kind.PACKAGE, Tree.Kind.IMPORT, Tree.Kind.TRY,
        Tree.Kind.THROW, Tree.Kind.SYNCHRONIZED, Tree.Kind.ASSERT, Tree.Kind.LAMBDA_EXPRESSION,
        Tree.Kind.MEMBER_REFERENCE);

    private final Trees trees;
    private final CompilationUnitTree program;
    private final Map<Element, Set<Element>> calls = new LinkedHashMap<>();
    private final Map<Element, Integer> depths = new HashMap<>();
    private final Set<Element> open = new HashSet<>();
    private int classes = 0;
    private int wrong = 0;

    private LanguageTest(Trees trees, CompilationUnitTree program) {
        this.trees = trees;
        this.program = program;
    }

    public static void main(String[] args) throws IOException {
        JavaCompiler compiler = ToolProvider.getSystemJavaCompiler();
        try (StandardJavaFileManager files = compiler.getStandardFileManager(null, null, null)) {
            JavacTask task = (JavacTask) compiler.getTask(null, files, null, List.of("--release", "17"), null,
                files.getJavaFileObjects(PROGRAM));
            CompilationUnitTree program = task.parse().iterator().next();
            task.analyze();
            LanguageTest look = new LanguageTest(Trees.instance(task), program);
            look.scan(program, null);
            look.lookAtTheWhole();
            System.out.println(look.wrong == 0 ? "the rules are kept" : look.wrong + " places break a rule");
            if (look.wrong != 0) {
                System.exit(1);
            }
        }
    }

    private void due(boolean kept, int rule, String what) {
        if (!kept) {
            wrong++;
            System.out.println("rule " + rule + ": " + what);
        }
    }

    // ---- each part of the text

    @Override
    public Void scan(Tree tree, Void none) {
        if (tree != null) {
            due(!REFUSED.contains(tree.getKind()), 6, "the program does without " + tree.getKind() + ": " + tree);
        }
        return super.scan(tree, none);
    }

    @Override
    public Void visitClass(ClassTree tree, Void none) {
        classes++;
        Set<Modifier> modifiers = here().getModifiers();
        boolean outermost = getCurrentPath().getParentPath().getLeaf() == program;
        due(outermost || modifiers.contains(Modifier.STATIC), 2, "not static: class " + tree.getSimpleName());
        long fields = here().getEnclosedElements().stream()
            .filter(e -> e.getKind() == ElementKind.FIELD && !e.getModifiers().contains(Modifier.STATIC)).count();
        due(fields <= MOST_FIELDS, 11, fields + " fields in class " + tree.getSimpleName());
        return super.visitClass(tree, none);
    }

    @Override
    public Void visitBlock(BlockTree tree, Void none) {
        due(!tree.isStatic(), 5, "a static initialiser block: " + tree);
        return super.visitBlock(tree, none);
    }

    @Override
    public Void visitVariable(VariableTree tree, Void none) {
        TypeMirror type = here().asType();
        due(TYPES.contains(type.toString()) || isOwn(trees.getElement(typePath(tree))), 3, "the type of " + tree);
        if (here().getModifiers().contains(Modifier.STATIC)) {
            due(here().getModifiers().contains(Modifier.FINAL), 5, "not final: " + tree);
            boolean row = CONSTANT_ROWS.contains(type.toString()) && isWrittenOut(tree.getInitializer());
            due(row || CONSTANTS.contains(type.toString()), 5, "no constant: " + tree);
        }
        return super.visitVariable(tree, none);
    }

    @Override
    public Void visitMethod(MethodTree tree, Void none) {
        calls.put(here(), new LinkedHashSet<>());
        due(tree.getParameters().size() <= MOST_PARAMETERS, 11, "too many parameters: " + tree.getName());
        due(linesOf(tree) <= MOST_LINES, 11, linesOf(tree) + " lines in " + tree.getName());
        return super.visitMethod(tree, none);
    }

    @Override
    public Void visitMethodInvocation(MethodInvocationTree tree, Void none) {
        addCall();
        return super.visitMethodInvocation(tree, none);
    }

    @Override
    public Void visitNewClass(NewClassTree tree, Void none) {
        due(isInConstructor(), 12, "an object outside a constructor: " + tree);
        addCall();
        return super.visitNewClass(tree, none);
    }

    @Override
    public Void visitNewArray(NewArrayTree tree, Void none) {
        boolean constant = isWrittenOut(tree) && method() == null;
        due(constant || isInConstructor(), 12, "an array outside a constructor: " + tree);
        return super.visitNewArray(tree, none);
    }

    @Override
    public Void visitAssignment(AssignmentTree tree, Void none) {
        dueNoConstant(tree.getVariable());
        return super.visitAssignment(tree, none);
    }

    @Override
    public Void visitCompoundAssignment(CompoundAssignmentTree tree, Void none) {
        dueNoConstant(tree.getVariable());
        return super.visitCompoundAssignment(tree, none);
    }

    @Override
    public Void visitUnary(UnaryTree tree, Void none) {
        switch (tree.getKind()) {
            case PREFIX_INCREMENT, PREFIX_DECREMENT, POSTFIX_INCREMENT, POSTFIX_DECREMENT ->
                dueNoConstant(tree.getExpression());
            default -> { }
        }
        return super.visitUnary(tree, none);
    }

    private void dueNoConstant(Tree target) {
        if (target instanceof ArrayAccessTree access) {
            TreePath row = new TreePath(new TreePath(getCurrentPath(), access), access.getExpression());
            boolean constant = trees.getElement(row).getModifiers().contains(Modifier.STATIC);
            due(!constant, 5, "a constant row is changed: " + target);
        }
    }

    private static boolean isWrittenOut(Tree initialiser) {
        return initialiser instanceof NewArrayTree row && row.getInitializers() != null;
    }

    private TreePath typePath(VariableTree tree) {
        return new TreePath(getCurrentPath(), tree.getType());
    }

    private Element here() {
        return trees.getElement(getCurrentPath());
    }

    /** The method round the part that is looked at; null in the initialiser of a field. */
    private Element method() {
        TreePath path = getCurrentPath();
        while (path != null && !(path.getLeaf() instanceof MethodTree)) {
            path = path.getParentPath();
        }
        return path == null ? null : trees.getElement(path);
    }

    private boolean isInConstructor() {
        return method() != null && method().getKind() == ElementKind.CONSTRUCTOR;
    }

    private void addCall() {
        Element called = here();
        if (method() == null) {
            due(false, 5, "a field's initialiser calls " + called);
        } else if (isOwn(called)) {
            calls.get(method()).add(called);
        } else {
            String name = called.getEnclosingElement() + "." + called.getSimpleName();
            due(LIBRARY.contains(name), 4, "the library's " + name);
        }
    }

    private boolean isOwn(Element e) {
        for (Element outer = e; outer != null; outer = outer.getEnclosingElement()) {
            if (outer.toString().equals("TwinTables")) {
                return true;
            }
        }
        return false;
    }

    private long linesOf(MethodTree tree) {
        long from = trees.getSourcePositions().getStartPosition(program, tree);
        long to = trees.getSourcePositions().getEndPosition(program, tree);
        // A constructor that the compiler adds has no end of its own.
        return to < 0 ? 0 : program.getLineMap().getLineNumber(to) - program.getLineMap().getLineNumber(from) + 1;
    }

    // ---- the whole

    private void lookAtTheWhole() {
        due(!calls.isEmpty(), 1, "no method in " + PROGRAM);
        due(classes <= MOST_CLASSES, 11, classes + " classes");
        Set<String> face = new HashSet<>();
        for (Element method : calls.keySet()) {
            if (method.getModifiers().contains(Modifier.PUBLIC) && method.getKind() == ElementKind.METHOD) {
                face.add(method.getSimpleName().toString());
            }
        }
        for (Element method : calls.keySet()) {
            due(depthOf(method) <= MOST_DEEP, 11, "calls " + depthOf(method) + " deep from " + method);
            boolean hidden = method.getModifiers().contains(Modifier.PRIVATE);
            due(!hidden || !face.contains(method.getSimpleName().toString()), 1, "a public one's name: " + method);
        }
    }

    /** How many calls stand open at once at the most, the call of the method itself counted as the first. */
    private int depthOf(Element method) {
        Integer known = depths.get(method);
        if (known != null) {
            return known;
        }
        if (!open.add(method)) {
            due(false, 8, "calls that come back to " + method);
            return 0;
        }
        int below = 0;
        for (Element called : calls.getOrDefault(method, Set.of())) {
            below = Math.max(below, depthOf(called));
        }
        open.remove(method);
        depths.put(method, below + 1);
        return below + 1;
    }
}
