import com.sun.source.tree.AssignmentTree;
import com.sun.source.tree.BinaryTree;
import com.sun.source.tree.ClassTree;
import com.sun.source.tree.CompilationUnitTree;
import com.sun.source.tree.ConditionalExpressionTree;
import com.sun.source.tree.DoWhileLoopTree;
import com.sun.source.tree.ExpressionTree;
import com.sun.source.tree.ForLoopTree;
import com.sun.source.tree.IdentifierTree;
import com.sun.source.tree.MethodInvocationTree;
import com.sun.source.tree.MethodTree;
import com.sun.source.tree.NewClassTree;
import com.sun.source.tree.ThrowTree;
import com.sun.source.tree.Tree;
import com.sun.source.tree.TypeCastTree;
import com.sun.source.tree.VariableTree;
import com.sun.source.tree.WhileLoopTree;
import com.sun.source.util.JavacTask;
import com.sun.source.util.SourcePositions;
import com.sun.source.util.TreePath;
import com.sun.source.util.TreePathScanner;
import com.sun.source.util.Trees;
import java.io.File;
import java.io.IOException;
import java.util.ArrayDeque;
import java.util.Arrays;
import java.util.Deque;
import java.util.EnumSet;
import java.util.HashMap;
import java.util.HashSet;
import java.util.LinkedHashMap;
import java.util.LinkedHashSet;
import java.util.List;
import java.util.Map;
import java.util.Set;
import javax.lang.model.element.Element;
import javax.lang.model.element.ElementKind;
import javax.lang.model.element.ExecutableElement;
import javax.lang.model.element.Modifier;
import javax.lang.model.element.VariableElement;
import javax.lang.model.type.TypeKind;
import javax.lang.model.type.TypeMirror;
import javax.tools.JavaCompiler;
import javax.tools.JavaFileObject;
import javax.tools.StandardJavaFileManager;
import javax.tools.ToolProvider;

/** The rules of LANGUAGE.md that can be seen in the source as the compiler understands it; their numbers stand ahead. */
public final class LanguageTest extends TreePathScanner<Void, Void> {
    /** Of what rule 4 leaves, only what the class has use for: a new one is looked up in the rule first. */
    private static final Set<String> LIBRARY = new HashSet<>(Arrays.asList(
        "java.lang.String.length()", "java.lang.String.charAt(int)", "java.lang.String.indexOf(int)",
        "java.lang.Integer.bitCount(int)", "java.lang.Integer.numberOfTrailingZeros(int)",
        "java.lang.Math.min(int,int)", "java.lang.Math.max(int,int)",
        "java.lang.System.arraycopy(java.lang.Object,int,java.lang.Object,int,int)",
        "java.util.Arrays.fill(int[],int)",
        "java.util.NoSuchElementException.NoSuchElementException()"));

    private static final Set<String> SIMPLE = new HashSet<>(Arrays.asList(
        "int", "long", "short", "byte", "char", "boolean", "java.lang.String"));

    private static final Set<Tree.Kind> NEVER = EnumSet.of(Tree.Kind.TRY, Tree.Kind.CATCH, Tree.Kind.SYNCHRONIZED,
        Tree.Kind.ASSERT, Tree.Kind.LAMBDA_EXPRESSION, Tree.Kind.MEMBER_REFERENCE, Tree.Kind.INSTANCE_OF,
        Tree.Kind.DOUBLE_LITERAL, Tree.Kind.FLOAT_LITERAL, Tree.Kind.ANNOTATION);

    private final CompilationUnitTree unit;
    private final Trees trees;
    private final SourcePositions places;
    private final Map<ExecutableElement, Set<ExecutableElement>> calls = new LinkedHashMap<>();
    private final Map<ExecutableElement, MethodTree> bodies = new HashMap<>();
    private final Deque<ExecutableElement> inside = new ArrayDeque<>();
    private int classes = 0;
    private int throwing = 0;

    private LanguageTest(CompilationUnitTree unit, Trees trees) {
        this.unit = unit;
        this.trees = trees;
        this.places = trees.getSourcePositions();
    }

    public static void main(String[] args) throws IOException {
        String where = args.length > 0 ? args[0] : "src/main/java/HookedCity.java";
        JavaCompiler compiler = ToolProvider.getSystemJavaCompiler();
        try (StandardJavaFileManager files = compiler.getStandardFileManager(null, null, null)) {
            Iterable<? extends JavaFileObject> sources = files.getJavaFileObjects(new File(where));
            JavacTask task = (JavacTask) compiler.getTask(null, files, null, List.of("-proc:none"), null, sources);
            CompilationUnitTree unit = task.parse().iterator().next();
            task.analyze();
            LanguageTest test = new LanguageTest(unit, Trees.instance(task));
            test.scan(unit, null);
            test.ends();
        }
        Probe.finish();
    }

    private void due(String rule, Tree tree, boolean holds) {
        long line = tree == null ? 0 : unit.getLineMap().getLineNumber(places.getStartPosition(unit, tree));
        Probe.due("rule " + rule + " at line " + line, holds, true);
    }

    private void ends() {
        due("6: the document has one exception, in one place", null, throwing == 1);
        due("11: some twelve classes", null, classes > 1 && classes <= 12);
        Set<ExecutableElement> circling = new LinkedHashSet<>();
        for (ExecutableElement one : calls.keySet()) {
            if (reached(one).contains(one)) {
                circling.add(one);
                due("8: the depth is carried: " + one, bodies.get(one), carriesDepth(one));
            }
        }
        due("8: a sentence's ONES and a match go in circles, nothing else: " + circling, null, circling.size() == 4);
        for (ExecutableElement one : calls.keySet()) {
            int deep = depth(one, circling, 0);
            due("11: calls go eight deep, not " + deep + ": " + one, bodies.get(one), deep <= 8);
        }
    }

    private static boolean carriesDepth(ExecutableElement method) {
        for (VariableElement parameter : method.getParameters()) {
            if (parameter.getSimpleName().contentEquals("depth")) {
                return true;
            }
        }
        return false;
    }

    private Set<ExecutableElement> reached(ExecutableElement start) {
        Set<ExecutableElement> all = new LinkedHashSet<>();
        Deque<ExecutableElement> open = new ArrayDeque<>(calls.get(start));
        while (!open.isEmpty()) {
            ExecutableElement one = open.pop();
            if (all.add(one) && calls.containsKey(one)) {
                open.addAll(calls.get(one));
            }
        }
        return all;
    }

    /** Methods that call one another in a circle count once: what they call in turn is one deeper. */
    private int depth(ExecutableElement start, Set<ExecutableElement> circling, int guard) {
        if (guard > 100) {
            return guard;
        }
        Set<ExecutableElement> circle = new LinkedHashSet<>(Set.of(start));
        if (circling.contains(start)) {
            for (ExecutableElement other : reached(start)) {
                if (circling.contains(other) && reached(other).contains(start)) {
                    circle.add(other);
                }
            }
        }
        int deepest = 0;
        for (ExecutableElement member : circle) {
            for (ExecutableElement next : calls.getOrDefault(member, Set.of())) {
                if (!circle.contains(next)) {
                    deepest = Math.max(deepest, depth(next, circling, guard + 1));
                }
            }
        }
        return deepest + 1;
    }

    @Override
    public Void scan(Tree tree, Void none) {
        if (tree != null) {
            due("2, 3, 6: no " + tree.getKind(), tree, !NEVER.contains(tree.getKind()));
        }
        return super.scan(tree, none);
    }

    @Override
    public Void visitClass(ClassTree tree, Void none) {
        classes++;
        Element element = trees.getElement(getCurrentPath());
        due("2: a class inside the class, not in a method", tree, inside.isEmpty());
        boolean outer = element.getEnclosingElement().getKind() == ElementKind.PACKAGE;
        due("1: private or package-visible", tree, outer || !element.getModifiers().contains(Modifier.PUBLIC));
        due("1: static", tree, outer || element.getModifiers().contains(Modifier.STATIC));
        int fields = 0;
        for (Tree member : tree.getMembers()) {
            due("5: no block outside of methods", member, member.getKind() != Tree.Kind.BLOCK);
            if (member instanceof VariableTree) {
                Element field = trees.getElement(new TreePath(getCurrentPath(), member));
                fields += field.getModifiers().contains(Modifier.STATIC) ? 0 : 1;
            }
        }
        due("11: some twenty fields: " + tree.getSimpleName(), tree, fields <= 20);
        return super.visitClass(tree, none);
    }

    @Override
    public Void visitMethod(MethodTree tree, Void none) {
        ExecutableElement element = (ExecutableElement) trees.getElement(getCurrentPath());
        calls.put(element, calls.getOrDefault(element, new LinkedHashSet<>()));
        bodies.put(element, tree);
        due("11: seven parameters", tree, tree.getParameters().size() <= 7);
        long from = unit.getLineMap().getLineNumber(places.getStartPosition(unit, tree));
        long to = unit.getLineMap().getLineNumber(Math.max(places.getEndPosition(unit, tree), 0));
        due("11: some sixty lines", tree, to - from <= 60);
        if (element.getReturnType().getKind() != TypeKind.VOID) {
            due("3: what it answers: " + element.getReturnType(), tree, isAllowed(element.getReturnType()));
        }
        inside.push(element);
        super.visitMethod(tree, none);
        inside.pop();
        return null;
    }

    @Override
    public Void visitVariable(VariableTree tree, Void none) {
        Element element = trees.getElement(getCurrentPath());
        TypeMirror type = element.asType();
        due("3: " + type + " " + tree.getName(), tree, isAllowed(type));
        boolean isStatic = element.getModifiers().contains(Modifier.STATIC);
        boolean isField = element.getKind() == ElementKind.FIELD;
        if (isStatic) {
            due("5: final", tree, element.getModifiers().contains(Modifier.FINAL));
            boolean constant = element instanceof VariableElement && ((VariableElement) element).getConstantValue() != null;
            due("5: a constant, or what values() told", tree,
                constant || element.getKind() == ElementKind.ENUM_CONSTANT
                || String.valueOf(tree.getInitializer()).equals("values()"));
        } else if (isField && element.getEnclosingElement().getKind() == ElementKind.ENUM) {
            due("2: an enum's fields", tree, SIMPLE.contains(type.toString()));
        } else if (isField) {
            due("1: private", tree, element.getModifiers().contains(Modifier.PRIVATE));
        }
        return super.visitVariable(tree, none);
    }

    private static boolean isAllowed(TypeMirror type) {
        String name = type.toString();
        String one = name.endsWith("[]") ? name.substring(0, name.length() - 2) : name;
        return SIMPLE.contains(one) || one.equals("HookedCity") || one.startsWith("HookedCity.");
    }

    @Override
    public Void visitMethodInvocation(MethodInvocationTree tree, Void none) {
        call(tree);
        return super.visitMethodInvocation(tree, none);
    }

    @Override
    public Void visitNewClass(NewClassTree tree, Void none) {
        call(tree);
        due("2: no class without a name", tree, tree.getClassBody() == null);
        return super.visitNewClass(tree, none);
    }

    private void call(Tree tree) {
        ExecutableElement element = (ExecutableElement) trees.getElement(getCurrentPath());
        String owner = element.getEnclosingElement().toString();
        boolean own = owner.equals("HookedCity") || owner.startsWith("HookedCity.");
        if (!own) {
            boolean above = element.getKind() == ElementKind.CONSTRUCTOR
                && (owner.equals("java.lang.Object") || owner.equals("java.lang.Enum"));
            String text = owner + "." + (element.getKind() == ElementKind.CONSTRUCTOR
                ? element.toString().replaceFirst("^.*\\.", "") : element.toString());
            due("4: " + text, tree, above || LIBRARY.contains(text));
        } else if (!inside.isEmpty()) {
            calls.get(inside.peek()).add(element);
        }
    }

    @Override
    public Void visitThrow(ThrowTree tree, Void none) {
        throwing++;
        due("6: throw new", tree, tree.getExpression() instanceof NewClassTree);
        due("6: not in a constructor", tree, !inside.isEmpty() && inside.peek().getKind() == ElementKind.METHOD);
        return super.visitThrow(tree, none);
    }

    @Override
    public Void visitTypeCast(TypeCastTree tree, Void none) {
        due("7: a cast of numbers", tree, trees.getTypeMirror(getCurrentPath()).getKind().isPrimitive());
        return super.visitTypeCast(tree, none);
    }

    @Override
    public Void visitBinary(BinaryTree tree, Void none) {
        if (tree.getKind() == Tree.Kind.PLUS) {
            due("10: texts are not joined by +", tree, trees.getTypeMirror(getCurrentPath()).getKind().isPrimitive());
        }
        if (tree.getKind() == Tree.Kind.DIVIDE || tree.getKind() == Tree.Kind.REMAINDER) {
            due("7: a divisor is looked at: " + tree, tree, isLookedAt(tree.getRightOperand()));
        }
        if (tree.getKind() == Tree.Kind.EQUAL_TO || tree.getKind() == Tree.Kind.NOT_EQUAL_TO) {
            due("6: no == of texts", tree, !isText(tree.getLeftOperand()) && !isText(tree.getRightOperand()));
        }
        return super.visitBinary(tree, none);
    }

    private boolean isText(ExpressionTree part) {
        TypeMirror type = trees.getTypeMirror(new TreePath(getCurrentPath(), part));
        return type != null && (type.toString().equals("java.lang.String") || type.toString().equals("java.lang.Integer"));
    }

    /** A number that is written, or a name that the same expression asks to be above 0 first. */
    private boolean isLookedAt(ExpressionTree divisor) {
        if (divisor.getKind() == Tree.Kind.INT_LITERAL) {
            return !divisor.toString().equals("0");
        }
        if (!(divisor instanceof IdentifierTree)) {
            return false;
        }
        String test = divisor + " > 0";
        for (TreePath at = getCurrentPath(); at != null; at = at.getParentPath()) {
            Tree tree = at.getLeaf();
            if (tree instanceof ConditionalExpressionTree
                && ((ConditionalExpressionTree) tree).getCondition().toString().contains(test)) {
                return true;
            }
            if (tree.getKind() == Tree.Kind.CONDITIONAL_AND
                && ((BinaryTree) tree).getLeftOperand().toString().contains(test)) {
                return true;
            }
        }
        return false;
    }

    @Override
    public Void visitForLoop(ForLoopTree tree, Void none) {
        due("9: a for has an end", tree, isEnd(tree.getCondition()));
        return super.visitForLoop(tree, none);
    }

    @Override
    public Void visitWhileLoop(WhileLoopTree tree, Void none) {
        due("9: a while has an end", tree, isEnd(tree.getCondition()));
        return super.visitWhileLoop(tree, none);
    }

    @Override
    public Void visitDoWhileLoop(DoWhileLoopTree tree, Void none) {
        due("9: a do has an end", tree, isEnd(tree.getCondition()));
        return super.visitDoWhileLoop(tree, none);
    }

    /** A counter against a bound stands in it. */
    private static boolean isEnd(ExpressionTree condition) {
        if (condition == null) {
            return false;
        }
        for (String part : condition.toString().split("&&")) {
            if (part.matches("[( ]*[\\w.]+( \\+ 1)? (<|<=|>=|>) [\\w.]+(\\(\\))?[) ]*")) {
                return true;
            }
        }
        return false;
    }

    @Override
    public Void visitAssignment(AssignmentTree tree, Void none) {
        if (tree.getVariable() instanceof IdentifierTree) {
            Element element = trees.getElement(new TreePath(getCurrentPath(), tree.getVariable()));
            due("5: nothing static is changed", tree, !element.getModifiers().contains(Modifier.STATIC));
        }
        return super.visitAssignment(tree, none);
    }
}
