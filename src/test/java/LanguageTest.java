import com.sun.source.tree.ArrayAccessTree;
import com.sun.source.tree.BinaryTree;
import com.sun.source.tree.ClassTree;
import com.sun.source.tree.CompilationUnitTree;
import com.sun.source.tree.CompoundAssignmentTree;
import com.sun.source.tree.ExpressionTree;
import com.sun.source.tree.MemberSelectTree;
import com.sun.source.tree.MethodInvocationTree;
import com.sun.source.tree.MethodTree;
import com.sun.source.tree.NewArrayTree;
import com.sun.source.tree.NewClassTree;
import com.sun.source.tree.Tree;
import com.sun.source.tree.TypeCastTree;
import com.sun.source.util.JavacTask;
import com.sun.source.util.TreePath;
import com.sun.source.util.TreePathScanner;
import com.sun.source.util.Trees;
import java.io.File;
import java.io.IOException;
import java.util.ArrayList;
import java.util.HashMap;
import java.util.HashSet;
import java.util.LinkedHashMap;
import java.util.LinkedHashSet;
import java.util.List;
import java.util.Map;
import java.util.Set;
import java.util.TreeSet;
import javax.lang.model.element.Element;
import javax.lang.model.element.ElementKind;
import javax.lang.model.element.ExecutableElement;
import javax.lang.model.element.TypeElement;
import javax.lang.model.util.Elements;
import javax.tools.JavaCompiler;
import javax.tools.StandardJavaFileManager;
import javax.tools.ToolProvider;

/**
 * What of ../shared/LANGUAGE.md is seen in the tree of the source alone: who calls whom and how deep,
 * where an index, a divisor, a cast stands, what is made and where.
 */
public final class LanguageTest {
    /** The methods that look at an index in their own lines and then use it. */
    private static final Set<String> INDEXED = Set.of("at", "put", "clear", "copy", "byteAt", "slotAt", "TermDraw");

    /** The methods that look at a divisor in their own lines and then divide; all others divide by constants. */
    private static final Set<String> DIVIDED = Set.of("share", "rest", "greatestDivisor", "set", "restBits");

    private static final Set<String> RECURSION = Set.of("readAlt", "readRow", "readItem", "readGroup");

    private static final int DEEP = 8;

    private final Map<Element, Set<Element>> calls = new LinkedHashMap<>();
    private final Map<Element, Integer> depths = new HashMap<>();
    private final List<ExecutableElement> methods = new ArrayList<>();
    private Trees trees;
    private Elements elements;

    private LanguageTest() {
    }

    public static void main(String[] args) throws IOException {
        LanguageTest test = new LanguageTest();
        test.read(new File("src/main/java/TermDraw.java"));
        test.overriders();
        test.recursion();
        test.deep();
        Checks.close("LanguageTest");
    }

    private void read(File source) throws IOException {
        JavaCompiler compiler = ToolProvider.getSystemJavaCompiler();
        try (StandardJavaFileManager files = compiler.getStandardFileManager(null, null, null)) {
            JavacTask task = (JavacTask) compiler.getTask(null, files, null, List.of("-proc:none"), null,
                    files.getJavaFileObjects(source));
            Iterable<? extends CompilationUnitTree> units = task.parse();
            task.analyze();
            trees = Trees.instance(task);
            elements = task.getElements();
            for (CompilationUnitTree unit : units) {
                new Scanner(unit).scan(unit, null);
            }
        }
    }

    /** A call of a method may go to each one that overrides it. */
    private void overriders() {
        for (ExecutableElement own : methods) {
            for (ExecutableElement other : methods) {
                if (own != other && elements.overrides(own, other, (TypeElement) own.getEnclosingElement())) {
                    calls.get(other).add(own);
                }
            }
        }
    }

    private Set<Element> reached(Element from) {
        Set<Element> all = new LinkedHashSet<>();
        List<Element> left = new ArrayList<>(calls.getOrDefault(from, Set.of()));
        while (!left.isEmpty()) {
            Element e = left.remove(left.size() - 1);
            if (all.add(e)) {
                left.addAll(calls.getOrDefault(e, Set.of()));
            }
        }
        return all;
    }

    private void recursion() {
        Set<String> found = new TreeSet<>();
        for (Element method : calls.keySet()) {
            if (reached(method).contains(method)) {
                found.add(method.getSimpleName().toString());
            }
        }
        Checks.due("rule 8: recursion", found.toString(), new TreeSet<>(RECURSION).toString());
    }

    /** How many calls stand open at most, its own one with them; those of the recursion left out. */
    private int depth(Element method, Set<Element> open) {
        Integer known = depths.get(method);
        if (known != null || !open.add(method)) {
            return known == null ? 0 : known;
        }
        int most = 0;
        for (Element next : calls.getOrDefault(method, Set.of())) {
            most = Math.max(most, depth(next, open));
        }
        open.remove(method);
        boolean recursion = RECURSION.contains(method.getSimpleName().toString());
        int own = most + (recursion ? 0 : 1);
        if (!recursion) {
            depths.put(method, own);
        }
        return own;
    }

    private void deep() {
        int deepest = 0;
        for (Element method : calls.keySet()) {
            int own = depth(method, new HashSet<>());
            Checks.due("rule 11: calls open in " + method + " (" + own + ")", own <= DEEP, true);
            deepest = Math.max(deepest, own);
        }
        Checks.due("calls are followed", deepest > 5, true);
    }

    private final class Scanner extends TreePathScanner<Void, Void> {
        private final CompilationUnitTree unit;

        Scanner(CompilationUnitTree unit) {
            this.unit = unit;
        }

        private String where(Tree tree) {
            long at = trees.getSourcePositions().getStartPosition(unit, tree);
            return " in line " + unit.getLineMap().getLineNumber(at);
        }

        /** The method around, or the class if it is a field's initialiser. */
        private Element around() {
            TreePath path = getCurrentPath();
            while (!(path.getLeaf() instanceof MethodTree) && !(path.getLeaf() instanceof ClassTree)) {
                path = path.getParentPath();
            }
            return trees.getElement(path);
        }

        /** The name of the method around, of its class in a constructor and in a field's initialiser. */
        private String name() {
            Element e = around();
            boolean method = e.getKind() == ElementKind.METHOD;
            return (method || e.getKind() == ElementKind.CLASS ? e : e.getEnclosingElement()).getSimpleName().toString();
        }

        private void call(Element to) {
            calls.computeIfAbsent(around(), k -> new LinkedHashSet<>()).add(to);
        }

        private void constant(ExpressionTree divisor, Tree tree) {
            boolean plain = divisor.getKind() == Tree.Kind.INT_LITERAL
                    || divisor.toString().matches("[A-Z_]+");
            Checks.due("rule 7: a divisor" + where(tree), plain || DIVIDED.contains(name()), true);
        }

        @Override
        public Void visitMethod(MethodTree tree, Void none) {
            ExecutableElement own = (ExecutableElement) trees.getElement(getCurrentPath());
            methods.add(own);
            calls.computeIfAbsent(own, k -> new LinkedHashSet<>());
            return super.visitMethod(tree, none);
        }

        @Override
        public Void visitMethodInvocation(MethodInvocationTree tree, Void none) {
            call(trees.getElement(getCurrentPath()));
            return super.visitMethodInvocation(tree, none);
        }

        /** Objects are made in constructors and fields' initialisers alone, never by a call. */
        @Override
        public Void visitNewClass(NewClassTree tree, Void none) {
            call(trees.getElement(getCurrentPath()));
            Checks.due("rule 12: a class without a body" + where(tree), tree.getClassBody() == null, true);
            Checks.due("rule 12: an object" + where(tree), around().getKind() != ElementKind.METHOD, true);
            return super.visitNewClass(tree, none);
        }

        @Override
        public Void visitNewArray(NewArrayTree tree, Void none) {
            boolean known = Set.of("ints", "longs", "TermDraw").contains(name());
            Checks.due("rule 12: an array" + where(tree), known && tree.getDimensions().size() == 1, true);
            return super.visitNewArray(tree, none);
        }

        @Override
        public Void visitArrayAccess(ArrayAccessTree tree, Void none) {
            Checks.due("rule 7: an index" + where(tree), INDEXED.contains(name()), true);
            return super.visitArrayAccess(tree, none);
        }

        @Override
        public Void visitBinary(BinaryTree tree, Void none) {
            if (tree.getKind() == Tree.Kind.DIVIDE || tree.getKind() == Tree.Kind.REMAINDER) {
                constant(tree.getRightOperand(), tree);
            }
            return super.visitBinary(tree, none);
        }

        @Override
        public Void visitCompoundAssignment(CompoundAssignmentTree tree, Void none) {
            if (tree.getKind() == Tree.Kind.DIVIDE_ASSIGNMENT || tree.getKind() == Tree.Kind.REMAINDER_ASSIGNMENT) {
                constant(tree.getExpression(), tree);
            }
            return super.visitCompoundAssignment(tree, none);
        }

        @Override
        public Void visitTypeCast(TypeCastTree tree, Void none) {
            Checks.due("rule 6: a cast" + where(tree), tree.getType().getKind() == Tree.Kind.PRIMITIVE_TYPE, true);
            return super.visitTypeCast(tree, none);
        }

        /** Rule 4: of the library its functions alone, not its constants. */
        @Override
        public Void visitMemberSelect(MemberSelectTree tree, Void none) {
            boolean library = tree.getExpression().toString().matches("Math|Integer|Long");
            boolean function = getCurrentPath().getParentPath().getLeaf() instanceof MethodInvocationTree;
            Checks.due("rule 4: " + tree + where(tree), !library || function, true);
            return super.visitMemberSelect(tree, none);
        }
    }
}
