import com.sun.source.tree.AssertTree;
import com.sun.source.tree.BinaryTree;
import com.sun.source.tree.BlockTree;
import com.sun.source.tree.ClassTree;
import com.sun.source.tree.CompilationUnitTree;
import com.sun.source.tree.CompoundAssignmentTree;
import com.sun.source.tree.DoWhileLoopTree;
import com.sun.source.tree.ExpressionTree;
import com.sun.source.tree.ForLoopTree;
import com.sun.source.tree.ImportTree;
import com.sun.source.tree.LambdaExpressionTree;
import com.sun.source.tree.LiteralTree;
import com.sun.source.tree.MemberReferenceTree;
import com.sun.source.tree.MethodInvocationTree;
import com.sun.source.tree.MethodTree;
import com.sun.source.tree.NewArrayTree;
import com.sun.source.tree.NewClassTree;
import com.sun.source.tree.SynchronizedTree;
import com.sun.source.tree.ThrowTree;
import com.sun.source.tree.Tree;
import com.sun.source.tree.TryTree;
import com.sun.source.tree.TypeCastTree;
import com.sun.source.tree.VariableTree;
import com.sun.source.tree.WhileLoopTree;
import com.sun.source.util.JavacTask;
import com.sun.source.util.TreePath;
import com.sun.source.util.TreePathScanner;
import com.sun.source.util.Trees;
import java.io.IOException;
import java.nio.file.Path;
import java.util.ArrayDeque;
import java.util.HashMap;
import java.util.HashSet;
import java.util.LinkedHashSet;
import java.util.List;
import java.util.Map;
import java.util.Set;
import javax.lang.model.element.Element;
import javax.lang.model.element.ElementKind;
import javax.lang.model.element.ExecutableElement;
import javax.lang.model.element.Modifier;
import javax.lang.model.element.TypeElement;
import javax.lang.model.element.VariableElement;
import javax.lang.model.type.ArrayType;
import javax.lang.model.type.DeclaredType;
import javax.lang.model.type.TypeKind;
import javax.lang.model.type.TypeMirror;
import javax.tools.JavaCompiler;
import javax.tools.StandardJavaFileManager;
import javax.tools.ToolProvider;

/**
 * The rules of LANGUAGE.md that the compiler's own tree of FlakePost.java can tell, with types and called methods known.
 *
 * <p>Three habits of the class are held, too, as by them rules 7 and 12 can be seen at once: a divisor is a constant, so is
 * the length of a new array, and what is made is made with the object that holds it. LANGUAGE.md allows more: a class that
 * needs more may drop the habit, not the rule.
 */
public final class RulesTest extends TreePathScanner<Void, Void> {
    private static final int MOST_PARAMETERS = 7, MOST_LINES = 60, MOST_DEEP = 8;
    private static final Set<String> IMPORTS = Set.of("java.util.Arrays", "java.util.ArrayList", "java.util.List",
        "java.util.Iterator");
    private static final Set<String> OF_NUMBERS = Set.of("java.lang.Integer", "java.lang.Long", "java.lang.Math");
    private static final Set<String> OF_LISTS = Set.of("add", "get", "set", "remove", "size", "isEmpty", "clear", "of");
    private static final Map<String, Set<String>> LIBRARY = Map.of(
        "java.lang.String", Set.of("length", "charAt", "isEmpty", "equals", "indexOf", "substring", "toCharArray"),
        "java.lang.StringBuilder", Set.of("append", "charAt", "setCharAt", "setLength", "deleteCharAt", "reverse", "length",
            "toString"),
        "java.util.ArrayList", OF_LISTS, "java.util.List", OF_LISTS, "java.util.Iterator", Set.of("hasNext", "next"),
        "java.lang.System", Set.of("arraycopy"), "java.util.Arrays", Set.of("copyOf", "copyOfRange", "fill"));
    private static final Set<String> MADE = Set.of("java.lang.String", "java.lang.StringBuilder", "java.util.ArrayList");
    private static final Due due = new Due();

    private final Trees trees;
    private final CompilationUnitTree unit;
    private final Map<ExecutableElement, Set<ExecutableElement>> calls = new HashMap<>();
    private final Map<ExecutableElement, Integer> deep = new HashMap<>();

    private RulesTest(Trees trees, CompilationUnitTree unit) {
        this.trees = trees;
        this.unit = unit;
    }

    public static void main(String[] args) throws IOException {
        JavaCompiler compiler = ToolProvider.getSystemJavaCompiler();
        try (StandardJavaFileManager files = compiler.getStandardFileManager(null, null, null)) {
            JavacTask task = (JavacTask) compiler.getTask(null, files, null, List.of("-proc:none"), null,
                files.getJavaFileObjects(Path.of("src/main/java/FlakePost.java")));
            CompilationUnitTree unit = task.parse().iterator().next();
            task.analyze();
            RulesTest test = new RulesTest(Trees.instance(task), unit);
            test.scan(new TreePath(unit), null);
            test.callGraph();
        }
        due.end();
    }

    private void rule(int number, String words, boolean holds) {
        long at = trees.getSourcePositions().getStartPosition(unit, getCurrentPath().getLeaf());
        long line = at < 0 ? 0 : unit.getLineMap().getLineNumber(at);
        due.holds("line " + line + ": rule " + number + ", " + words, holds);
    }

    private Element element() {
        return trees.getElement(getCurrentPath());
    }

    private TypeMirror typeOf(Tree part) {
        return trees.getTypeMirror(new TreePath(getCurrentPath(), part));
    }

    private static boolean isOwn(Element declared) {
        Element at = declared;
        while (at.getEnclosingElement() != null && at.getEnclosingElement().getKind() != ElementKind.PACKAGE) {
            at = at.getEnclosingElement();
        }
        return at.getSimpleName().contentEquals("FlakePost");
    }

    private static String nameOf(TypeMirror type) {
        return type instanceof DeclaredType declared ? ((TypeElement) declared.asElement()).getQualifiedName().toString() : "";
    }

    private static boolean isOwn(TypeMirror type) {
        return type instanceof DeclaredType declared && isOwn(declared.asElement()) || type.getKind() == TypeKind.TYPEVAR;
    }

    private static boolean isOwnOrNull(TypeMirror type) {
        return isOwn(type) || type.getKind() == TypeKind.NULL;
    }

    /** Rule 3: numbers, texts, own classes; arrays of them, of numbers in two dimensions; lists of own classes, of Integer. */
    private static boolean isFine(TypeMirror type) {
        if (type instanceof ArrayType array) {
            TypeMirror part = array.getComponentType();
            return part instanceof ArrayType inner ? inner.getComponentType().getKind().isPrimitive() : isFine(part);
        }
        if (Set.of("java.util.List", "java.util.ArrayList", "java.util.Iterator").contains(nameOf(type))) {
            List<? extends TypeMirror> held = ((DeclaredType) type).getTypeArguments();
            return held.size() == 1 && (isOwn(held.get(0)) || nameOf(held.get(0)).equals("java.lang.Integer"));
        }
        return type.getKind().isPrimitive() || type.getKind() == TypeKind.VOID || isOwn(type)
            || Set.of("java.lang.String", "java.lang.StringBuilder", "java.lang.Integer").contains(nameOf(type));
    }

    /** Rule 4: of Integer, Long and Math whatever is over int and long, and does not throw. */
    private static boolean isFine(ExecutableElement called, String owner, String name) {
        boolean whole = called.getParameters().stream().allMatch(parameter ->
            parameter.asType().getKind() == TypeKind.INT || parameter.asType().getKind() == TypeKind.LONG);
        boolean clone = name.equals("clone") && called.getParameters().isEmpty();
        return clone || LIBRARY.getOrDefault(owner, Set.of()).contains(name)
            || OF_NUMBERS.contains(owner) && whole && !name.endsWith("Exact") && !nameOf(called.getReturnType()).contains(".");
    }

    @Override
    public Void visitCompilationUnit(CompilationUnitTree tree, Void none) {
        rule(1, "one class in the file, no package", tree.getPackage() == null && tree.getTypeDecls().size() == 1);
        return super.visitCompilationUnit(tree, none);
    }

    @Override
    public Void visitImport(ImportTree tree, Void none) {
        rule(4, "an import: " + tree, !tree.isStatic() && IMPORTS.contains(tree.getQualifiedIdentifier().toString()));
        return null;
    }

    @Override
    public Void visitClass(ClassTree tree, Void none) {
        Tree around = getCurrentPath().getParentPath().getLeaf();
        boolean top = around instanceof CompilationUnitTree;
        rule(2, "no local or anonymous class", top || around instanceof ClassTree);
        Set<Modifier> modifiers = element().getModifiers();
        rule(1, "classes inside are static, and not public or protected", top || modifiers.contains(Modifier.STATIC)
            && !modifiers.contains(Modifier.PUBLIC) && !modifiers.contains(Modifier.PROTECTED));
        rule(6, "no equals, hashCode or toString of its own", tree.getMembers().stream().noneMatch(member ->
            member instanceof MethodTree method && method.getName().toString().matches("equals|hashCode|toString|finalize")));
        return super.visitClass(tree, none);
    }

    @Override
    public Void visitVariable(VariableTree tree, Void none) {
        Element variable = element();
        rule(3, "the type of " + tree.getName(), isFine(variable.asType()));
        if (variable.getKind() == ElementKind.FIELD && variable.getModifiers().contains(Modifier.STATIC)) {
            rule(5, "a static field is a constant", variable.getModifiers().contains(Modifier.FINAL)
                && (((VariableElement) variable).getConstantValue() != null || tree.getInitializer() instanceof NewArrayTree));
        }
        return super.visitVariable(tree, none);
    }

    @Override
    public Void visitBlock(BlockTree tree, Void none) {
        rule(5, "no initialiser block", !(getCurrentPath().getParentPath().getLeaf() instanceof ClassTree));
        return super.visitBlock(tree, none);
    }

    @Override
    public Void visitMethod(MethodTree tree, Void none) {
        ExecutableElement method = (ExecutableElement) element();
        rule(3, "what " + tree.getName() + " answers", isFine(method.getReturnType()));
        rule(6, "no throws", tree.getThrows().isEmpty());
        rule(11, "at most seven parameters", tree.getParameters().size() <= MOST_PARAMETERS);
        long first = trees.getSourcePositions().getStartPosition(unit, tree);
        long last = trees.getSourcePositions().getEndPosition(unit, tree);
        long lines = first < 0 || last < 0 ? 1 : unit.getLineMap().getLineNumber(last) - unit.getLineMap().getLineNumber(first);
        rule(11, "some sixty lines at most", lines < MOST_LINES);
        calls.putIfAbsent(method, new LinkedHashSet<>());
        return super.visitMethod(tree, none);
    }

    @Override
    public Void visitMethodInvocation(MethodInvocationTree tree, Void none) {
        ExecutableElement called = (ExecutableElement) element();
        TypeElement owner = (TypeElement) called.getEnclosingElement();
        String name = called.getSimpleName().toString();
        ExecutableElement caller = caller();
        if (isOwn(owner)) {
            if (caller != null) {
                calls.computeIfAbsent(caller, method -> new LinkedHashSet<>()).add(called);
            }
            rule(12, "a constructor calls no method that another class could override", caller == null
                || caller.getKind() != ElementKind.CONSTRUCTOR || called.getModifiers().contains(Modifier.PRIVATE));
        } else if (!name.equals("<init>")) {
            rule(4, "a library's method: " + owner + "." + name, isFine(called, owner.toString(), name));
        }
        return super.visitMethodInvocation(tree, none);
    }

    /** The method whose text this is in; null in a field's initialiser. */
    private ExecutableElement caller() {
        for (TreePath path = getCurrentPath(); path != null; path = path.getParentPath()) {
            if (path.getLeaf() instanceof MethodTree) {
                return (ExecutableElement) trees.getElement(path);
            }
        }
        return null;
    }

    private void made() {
        ExecutableElement maker = caller();
        rule(12, "a habit: what is made is made with the object that holds it",
            maker == null || maker.getKind() == ElementKind.CONSTRUCTOR);
    }

    @Override
    public Void visitNewClass(NewClassTree tree, Void none) {
        rule(2, "no anonymous class", tree.getClassBody() == null);
        TypeMirror type = trees.getTypeMirror(getCurrentPath());
        rule(4, "what is made: " + tree, isOwn(type) || MADE.contains(nameOf(type)));
        made();
        return super.visitNewClass(tree, none);
    }

    @Override
    public Void visitNewArray(NewArrayTree tree, Void none) {
        rule(3, "the type of a new array", isFine(trees.getTypeMirror(getCurrentPath())));
        for (ExpressionTree length : tree.getDimensions()) {
            rule(7, "a habit: the length of a new array is a constant: " + length, constant(length) >= 0);
        }
        made();
        return super.visitNewArray(tree, none);
    }

    /** What a number, a constant or a sum of those is; -1 for all else. */
    private long constant(ExpressionTree tree) {
        if (tree instanceof LiteralTree literal && literal.getValue() instanceof Number number) {
            return number.longValue();
        }
        if (tree instanceof BinaryTree sum && sum.getKind() == Tree.Kind.PLUS) {
            long left = constant(sum.getLeftOperand());
            long right = constant(sum.getRightOperand());
            return left < 0 || right < 0 ? -1 : left + right;
        }
        Element named = trees.getElement(new TreePath(getCurrentPath(), tree));
        boolean told = named instanceof VariableElement variable && variable.getConstantValue() instanceof Number;
        return told ? ((Number) ((VariableElement) named).getConstantValue()).longValue() : -1;
    }

    @Override
    public Void visitBinary(BinaryTree tree, Void none) {
        TypeMirror left = typeOf(tree.getLeftOperand());
        TypeMirror right = typeOf(tree.getRightOperand());
        boolean same = tree.getKind() == Tree.Kind.EQUAL_TO || tree.getKind() == Tree.Kind.NOT_EQUAL_TO;
        if (same || tree.getKind() == Tree.Kind.PLUS) {
            boolean numbers = left.getKind().isPrimitive() && right.getKind().isPrimitive();
            boolean objects = isOwnOrNull(left) && isOwnOrNull(right);
            rule(same ? 6 : 10, "no texts are added or held to be the same: " + tree, numbers || same && objects);
        }
        if (tree.getKind() == Tree.Kind.DIVIDE || tree.getKind() == Tree.Kind.REMAINDER) {
            rule(7, "a habit: a divisor is a constant above 0: " + tree, constant(tree.getRightOperand()) > 0);
        }
        return super.visitBinary(tree, none);
    }

    @Override
    public Void visitCompoundAssignment(CompoundAssignmentTree tree, Void none) {
        rule(10, "no text is added to", typeOf(tree.getVariable()).getKind().isPrimitive());
        if (tree.getKind() == Tree.Kind.DIVIDE_ASSIGNMENT || tree.getKind() == Tree.Kind.REMAINDER_ASSIGNMENT) {
            rule(7, "a habit: a divisor is a constant above 0: " + tree, constant(tree.getExpression()) > 0);
        }
        return super.visitCompoundAssignment(tree, none);
    }

    @Override
    public Void visitTypeCast(TypeCastTree tree, Void none) {
        TypeMirror type = typeOf(tree.getType());
        rule(6, "casts are among numbers or own classes", type.getKind().isPrimitive() || isOwn(type));
        return super.visitTypeCast(tree, none);
    }

    @Override
    public Void visitForLoop(ForLoopTree tree, Void none) {
        rule(9, "a loop has an end", tree.getCondition() != null && !(tree.getCondition() instanceof LiteralTree)
            && !tree.getUpdate().isEmpty());
        return super.visitForLoop(tree, none);
    }

    @Override
    public Void visitWhileLoop(WhileLoopTree tree, Void none) {
        rule(9, "a loop has an end", !tree.getCondition().toString().contains("(true)"));
        return super.visitWhileLoop(tree, none);
    }

    @Override
    public Void visitDoWhileLoop(DoWhileLoopTree tree, Void none) {
        rule(9, "a loop has an end", !tree.getCondition().toString().contains("(true)"));
        return super.visitDoWhileLoop(tree, none);
    }

    @Override
    public Void visitLambdaExpression(LambdaExpressionTree tree, Void none) {
        rule(2, "no lambda", false);
        return null;
    }

    @Override
    public Void visitMemberReference(MemberReferenceTree tree, Void none) {
        rule(2, "no method reference", false);
        return null;
    }

    @Override
    public Void visitThrow(ThrowTree tree, Void none) {
        rule(6, "no throw", false);
        return null;
    }

    @Override
    public Void visitTry(TryTree tree, Void none) {
        rule(6, "no try", false);
        return null;
    }

    @Override
    public Void visitSynchronized(SynchronizedTree tree, Void none) {
        rule(6, "no synchronized", false);
        return null;
    }

    @Override
    public Void visitAssert(AssertTree tree, Void none) {
        rule(6, "no assert", false);
        return null;
    }

    /** Rules 8 and 11: a private static method may call itself, and calls that are no recursion go eight deep. */
    private void callGraph() {
        for (Map.Entry<ExecutableElement, Set<ExecutableElement>> entry : calls.entrySet()) {
            Set<Modifier> modifiers = entry.getKey().getModifiers();
            due.holds("rule 8: " + entry.getKey() + " calls itself and is not private and static",
                !entry.getValue().contains(entry.getKey())
                    || modifiers.contains(Modifier.PRIVATE) && modifiers.contains(Modifier.STATIC));
            due.holds("rule 8: " + entry.getKey() + " is called by one that it calls", !reachesItself(entry.getKey()));
        }
        if (due.wrong() == 0) {
            for (ExecutableElement method : calls.keySet()) {
                due.holds("rule 11: " + method + " calls " + depth(method) + " deep", depth(method) <= MOST_DEEP);
            }
        }
    }

    /** Through others. */
    private boolean reachesItself(ExecutableElement start) {
        Set<ExecutableElement> seen = new HashSet<>();
        ArrayDeque<ExecutableElement> next = new ArrayDeque<>(calls.get(start));
        while (!next.isEmpty()) {
            ExecutableElement method = next.poll();
            if (!method.equals(start) && seen.add(method)) {
                for (ExecutableElement called : calls.getOrDefault(method, Set.of())) {
                    if (called.equals(start)) {
                        return true;
                    }
                    next.add(called);
                }
            }
        }
        return false;
    }

    private int depth(ExecutableElement method) {
        Integer known = deep.get(method);
        if (known != null) {
            return known;
        }
        int most = 0;
        for (ExecutableElement called : calls.getOrDefault(method, Set.of())) {
            most = Math.max(most, called.equals(method) ? 0 : depth(called));
        }
        deep.put(method, most + 1);
        return most + 1;
    }
}
