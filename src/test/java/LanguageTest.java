import com.sun.source.tree.ArrayAccessTree;
import com.sun.source.tree.BinaryTree;
import com.sun.source.tree.BlockTree;
import com.sun.source.tree.ClassTree;
import com.sun.source.tree.CompilationUnitTree;
import com.sun.source.tree.CompoundAssignmentTree;
import com.sun.source.tree.ExpressionTree;
import com.sun.source.tree.ForLoopTree;
import com.sun.source.tree.IdentifierTree;
import com.sun.source.tree.LambdaExpressionTree;
import com.sun.source.tree.MemberReferenceTree;
import com.sun.source.tree.MethodInvocationTree;
import com.sun.source.tree.MethodTree;
import com.sun.source.tree.NewArrayTree;
import com.sun.source.tree.NewClassTree;
import com.sun.source.tree.ThrowTree;
import com.sun.source.tree.Tree;
import com.sun.source.tree.TryTree;
import com.sun.source.tree.TypeCastTree;
import com.sun.source.tree.VariableTree;
import com.sun.source.tree.WhileLoopTree;
import com.sun.source.util.JavacTask;
import com.sun.source.util.TreePath;
import com.sun.source.util.TreePathScanner;
import com.sun.source.util.TreeScanner;
import com.sun.source.util.Trees;
import java.nio.file.Path;
import java.util.ArrayDeque;
import java.util.Deque;
import java.util.HashSet;
import java.util.List;
import java.util.Map;
import java.util.Set;
import java.util.TreeMap;
import java.util.TreeSet;
import javax.lang.model.element.Element;
import javax.lang.model.element.ElementKind;
import javax.lang.model.element.Modifier;
import javax.lang.model.element.VariableElement;
import javax.lang.model.type.TypeKind;
import javax.lang.model.type.TypeMirror;
import javax.tools.JavaCompiler;
import javax.tools.StandardJavaFileManager;
import javax.tools.ToolProvider;

/** LANGUAGE.md, rule by rule, as far as the compiler's own tree of the program shows it. */
public final class LanguageTest {
    private static final int DEEPEST_CALLS = 8;
    private static final int MOST_LINES = 60;
    private static final int MOST_PARAMETERS = 7;
    private static final int MOST_CLASSES = 12;
    private static final int MOST_FIELDS = 20;
    private static final Set<String> LIBRARY = Set.of("java.lang.Math.max", "java.lang.Math.min", "java.lang.Math.abs",
        "java.lang.Integer.bitCount", "java.lang.System.arraycopy", "java.lang.String.length", "java.lang.String.charAt",
        "java.lang.String.indexOf");
    private static final Set<String> EXCEPTIONS = Set.of("java.util.NoSuchElementException", "java.lang.IllegalArgumentException");
    private static final Set<TypeKind> CONSTANTS = Set.of(TypeKind.INT, TypeKind.LONG, TypeKind.BOOLEAN, TypeKind.CHAR);
    private static final Set<Tree.Kind> COMPARISONS = Set.of(Tree.Kind.LESS_THAN, Tree.Kind.LESS_THAN_EQUAL,
        Tree.Kind.GREATER_THAN, Tree.Kind.GREATER_THAN_EQUAL, Tree.Kind.EQUAL_TO, Tree.Kind.NOT_EQUAL_TO);
    private static int checks = 0;
    private static int wrong = 0;

    private final Trees trees;
    private final CompilationUnitTree unit;
    /** Which methods of the file a method calls; its recursive ones have their parameters' names beside them. */
    private final Map<String, Set<String>> calls = new TreeMap<>();
    private final Map<String, Set<String>> parameters = new TreeMap<>();

    private LanguageTest(Trees trees, CompilationUnitTree unit) {
        this.trees = trees;
        this.unit = unit;
    }

    public static void main(String[] args) throws Exception {
        Path file = Path.of(System.getProperty("project.root", "."), "src/main/java/SlideZips.java");
        JavaCompiler compiler = ToolProvider.getSystemJavaCompiler();
        try (StandardJavaFileManager files = compiler.getStandardFileManager(null, null, null)) {
            JavacTask task = (JavacTask) compiler.getTask(null, files, null, List.of("-proc:none"), null,
                files.getJavaFileObjects(file));
            CompilationUnitTree unit = task.parse().iterator().next();
            task.analyze();
            new LanguageTest(Trees.instance(task), unit).checkAll();
        }
        System.out.println("LanguageTest: " + checks + " checks, " + wrong + " wrong");
        if (wrong > 0) {
            System.exit(1);
        }
    }

    private static void check(boolean holds, int rule, String what) {
        checks++;
        if (!holds) {
            wrong++;
            System.out.println("rule " + rule + ": " + what);
        }
    }

    private void checkAll() {
        Scan scan = new Scan();
        scan.scan(unit, null);
        check(scan.classes <= MOST_CLASSES, 11, scan.classes + " classes");
        check(scan.classes > 1 && calls.size() > 100, 0, "the program was not read");
        checkCalls();
    }

    private String lineOf(Tree tree) {
        long at = trees.getSourcePositions().getStartPosition(unit, tree);
        return "line " + unit.getLineMap().getLineNumber(at) + ": " + tree.toString().lines().findFirst().orElse("");
    }

    private long linesOf(Tree tree) {
        long from = trees.getSourcePositions().getStartPosition(unit, tree);
        long to = trees.getSourcePositions().getEndPosition(unit, tree);
        return unit.getLineMap().getLineNumber(to) - unit.getLineMap().getLineNumber(from) + 1;
    }

    private static boolean isOwn(Element e) {
        Element c = e;
        while (c.getEnclosingElement() != null && c.getEnclosingElement().getKind() != ElementKind.PACKAGE) {
            c = c.getEnclosingElement();
        }
        return c.getSimpleName().contentEquals("SlideZips");
    }

    private static String nameOf(Element method) {
        return method.getEnclosingElement().getSimpleName() + "." + method;
    }

    /** The names in a tree. */
    private static Set<String> namesIn(Tree tree) {
        Set<String> names = new HashSet<>();
        new TreeScanner<Void, Void>() {
            @Override public Void visitIdentifier(IdentifierTree it, Void none) {
                names.add(it.getName().toString());
                return null;
            }
        }.scan(tree, null);
        return names;
    }

    /** The names that a method compares with something. */
    private static Set<String> comparedIn(Tree method) {
        Set<String> names = new HashSet<>();
        new TreeScanner<Void, Void>() {
            @Override public Void visitBinary(BinaryTree it, Void none) {
                if (COMPARISONS.contains(it.getKind())) {
                    names.addAll(namesIn(it));
                }
                return super.visitBinary(it, none);
            }
        }.scan(method, null);
        return names;
    }

    // ---- calls: rules 8 and 11 ----

    private void checkCalls() {
        Map<String, Set<String>> reached = new TreeMap<>();
        for (String method : calls.keySet()) {
            reached.put(method, reachedFrom(method));
        }
        for (String method : calls.keySet()) {
            boolean recursive = reached.get(method).contains(method);
            check(!recursive || parameters.get(method).contains("within"), 8, method + " carries no depth");
        }
        Map<String, List<String>> known = new TreeMap<>();
        for (String method : calls.keySet()) {
            List<String> chain = longestFrom(method, reached, known);
            check(chain.size() <= DEEPEST_CALLS, 11, chain.size() + " deep: " + String.join(" > ", chain));
        }
    }

    private Set<String> reachedFrom(String method) {
        Set<String> seen = new TreeSet<>();
        Deque<String> next = new ArrayDeque<>(calls.get(method));
        while (!next.isEmpty()) {
            String one = next.pop();
            if (seen.add(one)) {
                next.addAll(calls.getOrDefault(one, Set.of()));
            }
        }
        return seen;
    }

    /** The longest chain of calls; methods that call one another count as one. */
    private List<String> longestFrom(String method, Map<String, Set<String>> reached, Map<String, List<String>> known) {
        if (known.containsKey(method)) {
            return known.get(method);
        }
        List<String> longest = List.of();
        Set<String> level = new TreeSet<>(Set.of(method));
        for (String other : reached.get(method)) {
            if (reached.get(other).contains(method)) {
                level.add(other);
            }
        }
        for (String one : level) {
            for (String called : calls.get(one)) {
                List<String> chain = level.contains(called) ? List.of() : longestFrom(called, reached, known);
                longest = chain.size() > longest.size() ? chain : longest;
            }
        }
        List<String> all = new java.util.ArrayList<>(List.of(method));
        all.addAll(longest);
        known.put(method, all);
        return all;
    }

    // ---- the rest ----

    private final class Scan extends TreePathScanner<Void, Void> {
        private int classes = 0;
        private MethodTree method;
        private Set<String> compared = Set.of();

        private Element here() {
            return trees.getElement(getCurrentPath());
        }

        private TypeMirror typeOf(Tree tree) {
            return trees.getTypeMirror(new TreePath(getCurrentPath(), tree));
        }

        private boolean inConstructor() {
            return method != null && method.getReturnType() == null;
        }

        @Override public Void visitClass(ClassTree it, Void none) {
            classes++;
            boolean outer = getCurrentPath().getParentPath().getLeaf() == unit;
            Tree parent = getCurrentPath().getParentPath().getLeaf();
            check(outer || parent instanceof ClassTree, 2, it.getSimpleName() + " is a local class");
            check(outer || it.getModifiers().getFlags().contains(Modifier.STATIC), 2, it.getSimpleName() + " is not static");
            int fields = 0;
            for (Tree member : it.getMembers()) {
                boolean isField = member instanceof VariableTree;
                fields += isField && !((VariableTree) member).getModifiers().getFlags().contains(Modifier.STATIC) ? 1 : 0;
                check(!(member instanceof BlockTree), 5, it.getSimpleName() + " has an initialiser block");
            }
            check(fields <= MOST_FIELDS, 11, it.getSimpleName() + " has " + fields + " fields");
            return super.visitClass(it, none);
        }

        @Override public Void visitMethod(MethodTree it, Void none) {
            Element element = here();
            boolean generated = trees.getSourcePositions().getEndPosition(unit, it) < 0 || linesOf(it) <= 1;
            method = it;
            compared = comparedIn(it);
            calls.putIfAbsent(nameOf(element), new TreeSet<>());
            Set<String> names = new TreeSet<>();
            it.getParameters().forEach(p -> names.add(p.getName().toString()));
            parameters.put(nameOf(element), names);
            check(it.getParameters().size() <= MOST_PARAMETERS, 11, it.getName() + " has too many parameters");
            check(generated || linesOf(it) <= MOST_LINES, 11, it.getName() + " has " + linesOf(it) + " lines");
            super.visitMethod(it, none);
            method = null;
            return null;
        }

        @Override public Void visitVariable(VariableTree it, Void none) {
            TypeMirror type = typeOf(it.getType());
            check(mayBe(type, 2), 3, lineOf(it) + " has the type " + type);
            if (it.getModifiers().getFlags().contains(Modifier.STATIC)) {
                Object value = ((VariableElement) here()).getConstantValue();
                check(CONSTANTS.contains(type.getKind()) && value != null, 5, lineOf(it) + " is no constant");
            }
            return super.visitVariable(it, none);
        }

        private boolean mayBe(TypeMirror type, int dimensions) {
            if (type.getKind() == TypeKind.ARRAY) {
                TypeMirror of = ((javax.lang.model.type.ArrayType) type).getComponentType();
                return dimensions > 0 && mayBe(of, of.getKind().isPrimitive() ? 0 : dimensions - 1);
            }
            boolean real = type.getKind() == TypeKind.DOUBLE || type.getKind() == TypeKind.FLOAT;
            return !real && type.getKind().isPrimitive() || type.toString().equals("java.lang.String")
                || type.toString().startsWith("SlideZips.");
        }

        @Override public Void visitMethodInvocation(MethodInvocationTree it, Void none) {
            Element called = trees.getElement(new TreePath(getCurrentPath(), it.getMethodSelect()));
            boolean isSuper = called.getKind() == ElementKind.CONSTRUCTOR;
            if (isSuper) {
                return super.visitMethodInvocation(it, none);
            }
            check(!inConstructor(), 12, lineOf(it) + " stands in a constructor");
            if (isOwn(called)) {
                String caller = nameOf(trees.getElement(trees.getPath(unit, method)));
                calls.computeIfAbsent(caller, k -> new TreeSet<>()).add(nameOf(called));
            } else {
                String name = called.getEnclosingElement() + "." + called.getSimpleName();
                check(LIBRARY.contains(name), 4, lineOf(it) + " calls " + name);
            }
            return super.visitMethodInvocation(it, none);
        }

        @Override public Void visitNewClass(NewClassTree it, Void none) {
            boolean thrown = getCurrentPath().getParentPath().getLeaf() instanceof ThrowTree;
            check(thrown || inConstructor(), 12, lineOf(it) + " is made outside a constructor");
            check(it.getClassBody() == null, 2, lineOf(it) + " has a body");
            for (ExpressionTree argument : it.getArguments()) {
                check(thrown || namesIn(argument).isEmpty(), 12, lineOf(it) + " hands something out");
            }
            return super.visitNewClass(it, none);
        }

        @Override public Void visitNewArray(NewArrayTree it, Void none) {
            check(inConstructor(), 12, lineOf(it) + " is made outside a constructor");
            for (ExpressionTree size : it.getDimensions()) {
                for (String name : namesIn(size)) {
                    check(name.equals(name.toUpperCase()), 7, lineOf(it) + " has no constant length");
                }
            }
            return super.visitNewArray(it, none);
        }

        @Override public Void visitThrow(ThrowTree it, Void none) {
            check(!inConstructor(), 6, lineOf(it) + " stands in a constructor");
            check(it.getExpression() instanceof NewClassTree, 6, lineOf(it) + " throws nothing new");
            check(EXCEPTIONS.contains(typeOf(it.getExpression()).toString()), 6, lineOf(it));
            return super.visitThrow(it, none);
        }

        @Override public Void visitTry(TryTree it, Void none) {
            check(false, 6, lineOf(it));
            return super.visitTry(it, none);
        }

        @Override public Void visitLambdaExpression(LambdaExpressionTree it, Void none) {
            check(false, 2, lineOf(it));
            return super.visitLambdaExpression(it, none);
        }

        @Override public Void visitMemberReference(MemberReferenceTree it, Void none) {
            check(false, 2, lineOf(it));
            return super.visitMemberReference(it, none);
        }

        @Override public Void visitTypeCast(TypeCastTree it, Void none) {
            check(typeOf(it.getType()).getKind().isPrimitive(), 7, lineOf(it));
            return super.visitTypeCast(it, none);
        }

        @Override public Void visitForLoop(ForLoopTree it, Void none) {
            check(it.getCondition() != null && !it.getUpdate().isEmpty() && !comparedIn(it.getCondition()).isEmpty(), 9, lineOf(it));
            return super.visitForLoop(it, none);
        }

        @Override public Void visitWhileLoop(WhileLoopTree it, Void none) {
            check(!comparedIn(it.getCondition()).isEmpty(), 9, lineOf(it));
            return super.visitWhileLoop(it, none);
        }

        @Override public Void visitArrayAccess(ArrayAccessTree it, Void none) {
            for (String name : namesIn(it.getIndex())) {
                check(name.equals(name.toUpperCase()) || compared.contains(name), 7, lineOf(it) + ": " + name + " is not looked at");
            }
            return super.visitArrayAccess(it, none);
        }

        @Override public Void visitBinary(BinaryTree it, Void none) {
            if (it.getKind() == Tree.Kind.PLUS) {
                check(typeOf(it.getLeftOperand()).getKind().isPrimitive(), 10, lineOf(it) + " joins texts");
            }
            if (it.getKind() == Tree.Kind.DIVIDE || it.getKind() == Tree.Kind.REMAINDER) {
                checkDivisor(it, it.getRightOperand());
            }
            return super.visitBinary(it, none);
        }

        @Override public Void visitCompoundAssignment(CompoundAssignmentTree it, Void none) {
            if (it.getKind() == Tree.Kind.DIVIDE_ASSIGNMENT || it.getKind() == Tree.Kind.REMAINDER_ASSIGNMENT) {
                checkDivisor(it, it.getExpression());
            }
            return super.visitCompoundAssignment(it, none);
        }

        private void checkDivisor(Tree it, Tree divisor) {
            boolean number = divisor.getKind() == Tree.Kind.INT_LITERAL && !divisor.toString().equals("0");
            Set<String> names = namesIn(divisor);
            check(number || !names.isEmpty() && compared.containsAll(names), 7, lineOf(it) + ": its divisor is not looked at");
        }
    }
}
