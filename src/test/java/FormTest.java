import com.sun.source.tree.ArrayAccessTree;
import com.sun.source.tree.BinaryTree;
import com.sun.source.tree.ClassTree;
import com.sun.source.tree.CompilationUnitTree;
import com.sun.source.tree.ConditionalExpressionTree;
import com.sun.source.tree.DoWhileLoopTree;
import com.sun.source.tree.EnhancedForLoopTree;
import com.sun.source.tree.ExpressionTree;
import com.sun.source.tree.ForLoopTree;
import com.sun.source.tree.IdentifierTree;
import com.sun.source.tree.MemberSelectTree;
import com.sun.source.tree.MethodInvocationTree;
import com.sun.source.tree.MethodTree;
import com.sun.source.tree.NewArrayTree;
import com.sun.source.tree.NewClassTree;
import com.sun.source.tree.Tree;
import com.sun.source.tree.VariableTree;
import com.sun.source.tree.WhileLoopTree;
import com.sun.source.util.JavacTask;
import com.sun.source.util.TreePath;
import com.sun.source.util.TreePathScanner;
import com.sun.source.util.Trees;
import java.io.IOException;
import java.nio.file.Path;
import java.util.ArrayList;
import java.util.HashMap;
import java.util.HashSet;
import java.util.List;
import java.util.Map;
import java.util.Set;
import javax.lang.model.element.Element;
import javax.lang.model.element.ElementKind;
import javax.lang.model.element.Modifier;
import javax.lang.model.element.VariableElement;
import javax.tools.JavaCompiler;
import javax.tools.StandardJavaFileManager;
import javax.tools.ToolProvider;

/** Rules of LANGUAGE.md that show in the tree the compiler makes of the source; it is run from the project's root. */
public final class FormTest {
    private static final Check check = new Check("FormTest");
    private static final Set<String> LIBRARY = Set.of("java.util.Arrays.fill", "java.lang.Math.min", "java.lang.Math.max",
        "java.lang.Math.floorMod", "java.lang.Integer.bitCount", "java.lang.Integer.signum", "java.lang.Object.<init>");
    private static final Set<Tree.Kind> FORBIDDEN = Set.of(Tree.Kind.THROW, Tree.Kind.TRY, Tree.Kind.CATCH, Tree.Kind.SYNCHRONIZED,
        Tree.Kind.ASSERT, Tree.Kind.LAMBDA_EXPRESSION, Tree.Kind.MEMBER_REFERENCE, Tree.Kind.TYPE_CAST, Tree.Kind.INSTANCE_OF,
        Tree.Kind.STRING_LITERAL, Tree.Kind.DOUBLE_LITERAL, Tree.Kind.FLOAT_LITERAL);

    public static void main(String[] args) throws IOException {
        JavaCompiler compiler = ToolProvider.getSystemJavaCompiler();
        try (StandardJavaFileManager files = compiler.getStandardFileManager(null, null, null)) {
            var sources = files.getJavaFileObjects(Path.of("src/main/java/SaltLines.java"));
            JavacTask task = (JavacTask) compiler.getTask(null, files, null, List.of("-proc:none"), null, sources);
            Form form = new Form(Trees.instance(task));
            for (CompilationUnitTree unit : task.parse()) {
                check.isTrue("one class outside", unit.getTypeDecls().size() == 1);
                check.isTrue("no package line", unit.getPackage() == null);
                form.units.add(unit);
            }
            task.analyze();
            for (CompilationUnitTree unit : form.units) form.scan(unit, null);
            form.callsAreFewDeep();
        }
        check.end();
    }

    private static final class Form extends TreePathScanner<Void, Void> {
        final List<CompilationUnitTree> units = new ArrayList<>();
        private final Trees trees;
        private final Map<Element, Set<Element>> calls = new HashMap<>();
        private Element method;

        Form(Trees trees) {
            this.trees = trees;
        }

        private String where(Tree tree) {
            return tree.toString().lines().findFirst().orElse("") + " in " + method;
        }

        private Element of(Tree tree) {
            return trees.getElement(new TreePath(getCurrentPath(), tree));
        }

        private static boolean isOurs(Element element) {
            for (Element e = element; e != null; e = e.getEnclosingElement()) {
                if (e.getSimpleName().contentEquals("SaltLines")) return true;
            }
            return false;
        }

        /** Rule 6, and rule 3 as far as this class goes: it needs no texts, no fractions, and casts of long to int alone. */
        @Override
        public Void scan(Tree tree, Void none) {
            if (tree != null && FORBIDDEN.contains(tree.getKind())) {
                boolean narrows = tree.getKind() == Tree.Kind.TYPE_CAST && tree.toString().startsWith("(int)");
                check.isTrue("no " + tree.getKind() + ": " + where(tree), narrows);
            }
            return super.scan(tree, none);
        }

        /** Rule 2: static classes inside the one class, none local, none without a name. */
        @Override
        public Void visitClass(ClassTree tree, Void none) {
            boolean outer = getCurrentPath().getParentPath().getLeaf() instanceof CompilationUnitTree;
            Set<Modifier> flags = tree.getModifiers().getFlags();
            check.isTrue(tree.getSimpleName() + " is static", outer || flags.contains(Modifier.STATIC));
            check.isTrue(tree.getSimpleName() + " stands in a class", outer || getCurrentPath().getParentPath().getLeaf() instanceof ClassTree);
            return super.visitClass(tree, none);
        }

        @Override
        public Void visitMethod(MethodTree tree, Void none) {
            method = trees.getElement(getCurrentPath());
            calls.putIfAbsent(method, new HashSet<>());
            check.isTrue("seven parameters at most: " + method, tree.getParameters().size() <= 7);
            super.visitMethod(tree, none);
            method = null;
            return null;
        }

        /** Rule 5: static fields are final numbers. Rule 1: of the outer class all but the face is private. */
        @Override
        public Void visitVariable(VariableTree tree, Void none) {
            Element element = trees.getElement(getCurrentPath());
            if (element.getKind() == ElementKind.FIELD && element.getModifiers().contains(Modifier.STATIC)) {
                boolean constant = element.getModifiers().contains(Modifier.FINAL) && ((VariableElement) element).getConstantValue() != null;
                check.isTrue("a constant: " + element, constant);
            }
            return super.visitVariable(tree, none);
        }

        /** Rule 4: of the library only what is listed; calls of one's own make the graph for rules 8 and 11. */
        @Override
        public Void visitMethodInvocation(MethodInvocationTree tree, Void none) {
            Element called = of(tree.getMethodSelect());
            if (isOurs(called)) {
                check.isTrue("a call in a method: " + tree, method != null);
                if (method != null) calls.get(method).add(called);
            } else {
                String name = called.getEnclosingElement() + "." + called.getSimpleName();
                check.isTrue("of the library: " + name, LIBRARY.contains(name));
            }
            return super.visitMethodInvocation(tree, none);
        }

        @Override
        public Void visitMemberSelect(MemberSelectTree tree, Void none) {
            fieldIsOurs(tree);
            return super.visitMemberSelect(tree, none);
        }

        @Override
        public Void visitIdentifier(IdentifierTree tree, Void none) {
            fieldIsOurs(tree);
            return super.visitIdentifier(tree, none);
        }

        /** Rule 4 lists functions of the library, no fields of it; an array's length is of the language. */
        private void fieldIsOurs(ExpressionTree tree) {
            Element element = trees.getElement(getCurrentPath());
            if (element == null || element.getKind() != ElementKind.FIELD) return;
            check.isTrue("a field of the library: " + tree, isOurs(element) || element.getSimpleName().contentEquals("length")
                || element.getSimpleName().contentEquals("class"));
        }

        /** Rules 7 and 12: arrays are indexed in Row alone, behind a look at the index, and made with the object. */
        @Override
        public Void visitArrayAccess(ArrayAccessTree tree, Void none) {
            boolean looked = false;
            for (TreePath path = getCurrentPath(); path != null && !looked; path = path.getParentPath()) {
                looked = path.getLeaf().toString().replaceAll("[()]", "").contains("i >= 0 && i < cells.length");
                if (path.getLeaf() instanceof MethodTree) break;
            }
            check.isTrue("an index is looked at: " + where(tree), looked && tree.toString().equals("cells[i]"));
            return super.visitArrayAccess(tree, none);
        }

        @Override
        public Void visitNewArray(NewArrayTree tree, Void none) {
            check.isTrue("made with the object: " + where(tree), isMadeWithTheObject());
            check.isTrue("a length of 0 or more: " + where(tree), tree.toString().equals("new int[Math.max(0, length)]"));
            return super.visitNewArray(tree, none);
        }

        @Override
        public Void visitNewClass(NewClassTree tree, Void none) {
            check.isTrue("made with the object: " + where(tree), isMadeWithTheObject());
            check.isTrue("a class of its own, without a body: " + where(tree), isOurs(of(tree.getIdentifier())) && tree.getClassBody() == null);
            return super.visitNewClass(tree, none);
        }

        private boolean isMadeWithTheObject() {
            return method == null || method.getKind() == ElementKind.CONSTRUCTOR;
        }

        /** Rule 7: a divisor is a constant that is not 0, or stands behind a look at it. */
        @Override
        public Void visitBinary(BinaryTree tree, Void none) {
            if (tree.getKind() == Tree.Kind.DIVIDE || tree.getKind() == Tree.Kind.REMAINDER) {
                String divisor = tree.getRightOperand().toString();
                boolean safe = divisor.matches("[1-9]\\d*") || of(tree.getRightOperand()) instanceof VariableElement v
                    && v.getConstantValue() instanceof Number n && n.longValue() != 0;
                for (TreePath path = getCurrentPath(); path != null && !safe; path = path.getParentPath()) {
                    safe = path.getLeaf() instanceof ConditionalExpressionTree c && c.getCondition().toString().replaceAll("[()]", "").equals(divisor + " > 0");
                }
                check.isTrue("a divisor is looked at: " + where(tree), safe);
            }
            return super.visitBinary(tree, none);
        }

        /** Rule 9: each loop has a counter against a bound. */
        @Override
        public Void visitForLoop(ForLoopTree tree, Void none) {
            check.isTrue("a loop with a bound: " + where(tree), hasBound(tree.getCondition()) && !tree.getUpdate().isEmpty());
            return super.visitForLoop(tree, none);
        }

        @Override
        public Void visitWhileLoop(WhileLoopTree tree, Void none) {
            boolean counts = tree.getStatement().toString().contains("next++");
            check.isTrue("a loop with a bound: " + where(tree), tree.getCondition().toString().contains("next < letters") && counts);
            return super.visitWhileLoop(tree, none);
        }

        @Override
        public Void visitDoWhileLoop(DoWhileLoopTree tree, Void none) {
            check.isTrue("no do: " + where(tree), false);
            return super.visitDoWhileLoop(tree, none);
        }

        @Override
        public Void visitEnhancedForLoop(EnhancedForLoopTree tree, Void none) {
            check.isTrue("loops by index: " + where(tree), false);
            return super.visitEnhancedForLoop(tree, none);
        }

        private static boolean hasBound(ExpressionTree condition) {
            return condition != null && condition.toString().matches("(?s).*\\w+ <=? .*");
        }

        /** Rules 8 and 11: no method calls itself, not by others either, and calls go at most eight deep. */
        void callsAreFewDeep() {
            int deepest = 0;
            for (Element start : calls.keySet()) deepest = Math.max(deepest, depth(start, new HashSet<>()));
            check.isTrue("calls go eight deep at most: " + deepest, deepest <= 8);
        }

        private int depth(Element from, Set<Element> open) {
            if (!open.add(from)) {
                check.isTrue("recursion by " + from, false);
                return 0;
            }
            int deepest = 0;
            for (Element called : calls.getOrDefault(from, Set.of())) deepest = Math.max(deepest, depth(called, open));
            open.remove(from);
            return deepest + 1;
        }
    }
}
