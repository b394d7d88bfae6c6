import com.sun.source.tree.BinaryTree;
import com.sun.source.tree.BlockTree;
import com.sun.source.tree.ClassTree;
import com.sun.source.tree.CompilationUnitTree;
import com.sun.source.tree.DoWhileLoopTree;
import com.sun.source.tree.ExpressionTree;
import com.sun.source.tree.ForLoopTree;
import com.sun.source.tree.MethodInvocationTree;
import com.sun.source.tree.MethodTree;
import com.sun.source.tree.NewClassTree;
import com.sun.source.tree.Tree;
import com.sun.source.tree.VariableTree;
import com.sun.source.tree.WhileLoopTree;
import com.sun.source.util.JavacTask;
import com.sun.source.util.TreePath;
import com.sun.source.util.TreePathScanner;
import com.sun.source.util.Trees;
import java.io.IOException;
import java.nio.file.Path;
import java.util.EnumSet;
import java.util.HashMap;
import java.util.HashSet;
import java.util.List;
import java.util.Map;
import java.util.Set;
import javax.lang.model.element.Element;
import javax.lang.model.element.ExecutableElement;
import javax.lang.model.element.Modifier;
import javax.lang.model.element.TypeElement;
import javax.lang.model.type.ArrayType;
import javax.lang.model.type.TypeKind;
import javax.lang.model.type.TypeMirror;
import javax.tools.JavaCompiler;
import javax.tools.StandardJavaFileManager;
import javax.tools.ToolProvider;

/**
 * What of ../shared/LANGUAGE.md the compiler's own reading of the class shows; the rules' numbers stand with what is
 * looked at. Rules 7 and 13 are seen by running it (WildTest, and all tests that make the same calls twice).
 */
public final class LanguageTest extends TreePathScanner<Void, Void> {
    /** Read from the project's folder, where .ci/run stands when it runs the tests. */
    private static final Path SOURCE = Path.of("src/main/java/FindingHouse.java");

    private static final Set<Tree.Kind> UNWANTED = EnumSet.of(Tree.Kind.LAMBDA_EXPRESSION, Tree.Kind.MEMBER_REFERENCE,
        Tree.Kind.THROW, Tree.Kind.TRY, Tree.Kind.CATCH, Tree.Kind.SYNCHRONIZED, Tree.Kind.ASSERT, Tree.Kind.PACKAGE,
        Tree.Kind.ANNOTATION_TYPE);
    private static final Set<String> CLASSES = Set.of("java.lang.String", "java.lang.StringBuilder", "java.lang.Integer",
        "java.util.ArrayList", "java.util.List");
    private static final Set<String> STATIC_FUNCTIONS = Set.of("java.lang.Math", "java.lang.Integer", "java.lang.Long");
    private static final Set<String> OTHER_FUNCTIONS = Set.of("java.lang.System.arraycopy", "java.util.Arrays.copyOf",
        "java.util.Arrays.copyOfRange", "java.util.Arrays.fill", "java.util.List.of", "Array.clone");
    private static final Set<String> STATIC_TYPES = Set.of("int", "long", "boolean", "char", "java.lang.String", "int[]",
        "long[]", "char[]", "byte[]");

    private static final int MOST_PARAMETERS = 7;
    private static final int MOST_LINES_OF_A_METHOD = 60;
    private static final int DEEPEST_CALLS = 8;
    private static final int MOST_CLASSES = 12;
    private static final int MOST_FIELDS = 20;

    private final Due due = new Due();
    private final Trees trees;
    private final CompilationUnitTree unit;
    private final Map<Element, Set<Element>> callsOf = new HashMap<>();
    private final Set<String> shownNames = new HashSet<>();
    private final Set<String> hiddenNames = new HashSet<>();
    private int classes = 0;

    private LanguageTest(Trees trees, CompilationUnitTree unit) {
        this.trees = trees;
        this.unit = unit;
    }

    public static void main(String[] args) throws IOException {
        JavaCompiler compiler = ToolProvider.getSystemJavaCompiler();
        try (StandardJavaFileManager files = compiler.getStandardFileManager(null, null, null)) {
            JavacTask task = (JavacTask) compiler.getTask(null, files, null, List.of("-proc:none", "--release", "17"), null,
                files.getJavaFileObjects(SOURCE));
            CompilationUnitTree unit = task.parse().iterator().next();
            task.analyze();
            LanguageTest test = new LanguageTest(Trees.instance(task), unit);
            test.scan(unit, null);
            test.looksAtTheWhole();
            test.due.close();
        }
    }

    private void looksAtTheWhole() {
        due.same("rule 1: classes in the file that are inside no other", unit.getTypeDecls().size(), 1);
        due.holds("rule 11: classes, of which there are " + classes, classes >= 1 && classes <= MOST_CLASSES);
        due.holds("methods were seen", callsOf.size() > 16);
        // All constructors bear the one name.
        shownNames.remove("<init>");
        for (String name : shownNames) {
            due.refused("rule 1: a private method is named " + name, hiddenNames.contains(name));
        }
        for (Element method : callsOf.keySet()) {
            int depth = depthOf(method, new HashSet<>());
            due.holds("rules 8 and 11: calls of " + method + " go " + depth + " deep", depth <= DEEPEST_CALLS);
        }
    }

    /** This class needs no recursion, so one that calls itself again is told as too deep. */
    private int depthOf(Element method, Set<Element> open) {
        if (!open.add(method)) {
            return DEEPEST_CALLS + 1;
        }
        int deepest = 0;
        for (Element called : callsOf.getOrDefault(method, Set.of())) {
            deepest = Math.max(deepest, depthOf(called, open));
        }
        open.remove(method);
        return 1 + deepest;
    }

    private String where(Tree tree) {
        long from = trees.getSourcePositions().getStartPosition(unit, tree);
        return " (line " + unit.getLineMap().getLineNumber(from) + ")";
    }

    private Element element() {
        return trees.getElement(getCurrentPath());
    }

    @Override
    public Void scan(Tree tree, Void none) {
        if (tree != null && UNWANTED.contains(tree.getKind())) {
            due.refused("rules 2 and 6: " + tree.getKind() + where(tree), true);
        }
        return super.scan(tree, none);
    }

    @Override
    public Void visitClass(ClassTree tree, Void none) {
        classes++;
        Set<Modifier> modifiers = tree.getModifiers().getFlags();
        Tree parent = getCurrentPath().getParentPath().getLeaf();
        if (parent == unit) {
            due.holds("rule 1: public and final", modifiers.containsAll(Set.of(Modifier.PUBLIC, Modifier.FINAL)));
        } else {
            due.holds("rule 2: no local or anonymous class" + where(tree), parent instanceof ClassTree);
            due.holds("rule 2: static inside" + where(tree), element().getModifiers().contains(Modifier.STATIC));
            boolean hidden = !modifiers.contains(Modifier.PUBLIC) && !modifiers.contains(Modifier.PROTECTED);
            due.holds("rule 1: private or package-visible" + where(tree), hidden);
        }
        int fields = 0;
        for (Tree member : tree.getMembers()) {
            boolean isBlock = member instanceof BlockTree;
            due.refused("rule 5: a static block" + where(member), isBlock && ((BlockTree) member).isStatic());
            boolean isField = member instanceof VariableTree;
            boolean isStatic = isField && ((VariableTree) member).getModifiers().getFlags().contains(Modifier.STATIC);
            fields += isField && !isStatic ? 1 : 0;
        }
        due.holds("rule 11: " + fields + " fields" + where(tree), fields <= MOST_FIELDS);
        return super.visitClass(tree, none);
    }

    @Override
    public Void visitMethod(MethodTree tree, Void none) {
        ExecutableElement method = (ExecutableElement) element();
        callsOf.computeIfAbsent(method, m -> new HashSet<>());
        String name = method.getSimpleName().toString();
        if (method.getModifiers().contains(Modifier.PRIVATE)) {
            hiddenNames.add(name);
        } else if (method.getEnclosingElement().getSimpleName().contentEquals("FindingHouse")) {
            shownNames.add(name);
            due.holds("rule 1: public or private" + where(tree), method.getModifiers().contains(Modifier.PUBLIC));
        }
        due.holds("rule 3: answer's type" + where(tree), isAllowed(method.getReturnType()));
        due.holds("rule 11: parameters" + where(tree), tree.getParameters().size() <= MOST_PARAMETERS);
        long from = trees.getSourcePositions().getStartPosition(unit, tree);
        long to = trees.getSourcePositions().getEndPosition(unit, tree);
        // A constructor that the compiler makes by itself has no end.
        long lines = to < 0 ? 0 : unit.getLineMap().getLineNumber(to) - unit.getLineMap().getLineNumber(from) + 1;
        due.holds("rule 11: " + lines + " lines of a method" + where(tree), lines <= MOST_LINES_OF_A_METHOD);
        return super.visitMethod(tree, none);
    }

    @Override
    public Void visitVariable(VariableTree tree, Void none) {
        Element variable = element();
        due.holds("rule 3: type of " + variable + where(tree), isAllowed(variable.asType()));
        if (variable.getModifiers().contains(Modifier.STATIC)) {
            due.holds("rule 5: final" + where(tree), variable.getModifiers().contains(Modifier.FINAL));
            due.holds("rule 5: type" + where(tree), STATIC_TYPES.contains(variable.asType().toString()));
        }
        return super.visitVariable(tree, none);
    }

    private boolean isAllowed(TypeMirror type) {
        if (type.getKind() == TypeKind.ARRAY) {
            TypeMirror part = ((ArrayType) type).getComponentType();
            boolean ofNumbers = part.getKind() == TypeKind.ARRAY && ((ArrayType) part).getComponentType().getKind().isPrimitive();
            return ofNumbers || part.getKind() != TypeKind.ARRAY && isAllowed(part);
        }
        String name = type.toString().replaceAll("<.*>", "");
        return type.getKind().isPrimitive() || type.getKind() == TypeKind.VOID || CLASSES.contains(name)
            || name.startsWith("FindingHouse");
    }

    @Override
    public Void visitMethodInvocation(MethodInvocationTree tree, Void none) {
        Element called = element();
        TypeElement owner = (TypeElement) called.getEnclosingElement();
        String type = owner.getQualifiedName().toString();
        String name = called.getSimpleName().toString();
        boolean isOwn = type.startsWith("FindingHouse");
        boolean isFunction = STATIC_FUNCTIONS.contains(type) && !name.endsWith("Exact");
        boolean isConstructorsOfObject = type.equals("java.lang.Object") && name.equals("<init>");
        boolean isListed = OTHER_FUNCTIONS.contains(type + "." + name) || CLASSES.contains(type);
        due.holds("rules 4, 6 and 13: calls " + type + "." + name + where(tree),
            isOwn || isFunction || isListed || isConstructorsOfObject);
        Element caller = caller();
        if (isOwn && caller != null) {
            callsOf.computeIfAbsent(caller, m -> new HashSet<>()).add(called);
        }
        return super.visitMethodInvocation(tree, none);
    }

    private Element caller() {
        for (TreePath path = getCurrentPath(); path != null; path = path.getParentPath()) {
            if (path.getLeaf() instanceof MethodTree) {
                return trees.getElement(path);
            }
        }
        return null;
    }

    @Override
    public Void visitNewClass(NewClassTree tree, Void none) {
        due.holds("rule 2: no anonymous class" + where(tree), tree.getClassBody() == null);
        due.holds("rule 3: makes" + where(tree), isAllowed(trees.getTypeMirror(getCurrentPath())));
        return super.visitNewClass(tree, none);
    }

    @Override
    public Void visitBinary(BinaryTree tree, Void none) {
        String type = String.valueOf(trees.getTypeMirror(getCurrentPath()));
        due.refused("rule 10: joins texts by +" + where(tree), type.equals("java.lang.String"));
        return super.visitBinary(tree, none);
    }

    private void hasAnEnd(Tree loop, ExpressionTree condition) {
        boolean isSaid = condition != null && !condition.toString().matches("\\(*true\\)*");
        due.holds("rule 9: says when it ends" + where(loop), isSaid);
    }

    @Override
    public Void visitForLoop(ForLoopTree tree, Void none) {
        hasAnEnd(tree, tree.getCondition());
        return super.visitForLoop(tree, none);
    }

    @Override
    public Void visitWhileLoop(WhileLoopTree tree, Void none) {
        hasAnEnd(tree, tree.getCondition());
        return super.visitWhileLoop(tree, none);
    }

    @Override
    public Void visitDoWhileLoop(DoWhileLoopTree tree, Void none) {
        hasAnEnd(tree, tree.getCondition());
        return super.visitDoWhileLoop(tree, none);
    }
}
