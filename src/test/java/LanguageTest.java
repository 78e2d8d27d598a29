import com.sun.source.tree.AssertTree;
import com.sun.source.tree.AssignmentTree;
import com.sun.source.tree.BinaryTree;
import com.sun.source.tree.ClassTree;
import com.sun.source.tree.CompilationUnitTree;
import com.sun.source.tree.CompoundAssignmentTree;
import com.sun.source.tree.DoWhileLoopTree;
import com.sun.source.tree.EnhancedForLoopTree;
import com.sun.source.tree.ExpressionTree;
import com.sun.source.tree.ForLoopTree;
import com.sun.source.tree.IdentifierTree;
import com.sun.source.tree.ImportTree;
import com.sun.source.tree.InstanceOfTree;
import com.sun.source.tree.LambdaExpressionTree;
import com.sun.source.tree.LiteralTree;
import com.sun.source.tree.MemberReferenceTree;
import com.sun.source.tree.MethodInvocationTree;
import com.sun.source.tree.MethodTree;
import com.sun.source.tree.NewArrayTree;
import com.sun.source.tree.NewClassTree;
import com.sun.source.tree.SwitchExpressionTree;
import com.sun.source.tree.SwitchTree;
import com.sun.source.tree.SynchronizedTree;
import com.sun.source.tree.ThrowTree;
import com.sun.source.tree.Tree;
import com.sun.source.tree.TryTree;
import com.sun.source.tree.TypeCastTree;
import com.sun.source.tree.UnaryTree;
import com.sun.source.tree.VariableTree;
import com.sun.source.tree.WhileLoopTree;
import com.sun.source.util.JavacTask;
import com.sun.source.util.TreePath;
import com.sun.source.util.TreePathScanner;
import com.sun.source.util.Trees;
import java.nio.file.Files;
import java.nio.file.Path;
import java.util.ArrayList;
import java.util.HashMap;
import java.util.List;
import java.util.Map;
import java.util.Set;
import java.util.TreeMap;
import java.util.TreeSet;
import javax.lang.model.element.Element;
import javax.lang.model.element.ElementKind;
import javax.lang.model.element.Modifier;
import javax.lang.model.type.ArrayType;
import javax.lang.model.type.TypeKind;
import javax.lang.model.type.TypeMirror;
import javax.tools.JavaCompiler;
import javax.tools.StandardJavaFileManager;
import javax.tools.ToolProvider;

/**
 * The rules of ../shared/LANGUAGE.md, by the compiler's own tree of the class. Where the class does with less than a
 * rule leaves (no call makes an object, no loop but for, no recursion), the test holds it to the less.
 */
public final class LanguageTest {
    private static final Path SOURCE = Path.of("src/main/java/GridMender.java");
    private static final Set<String> LIBRARY = Set.of("Math.min", "Math.max", "Math.abs", "Integer.bitCount", "Long.bitCount",
        "Arrays.fill", "System.arraycopy", "Object.<init>");
    private static final int MOST_DEEP = 8, MOST_PARAMETERS = 7, MOST_LINES = 60, MOST_CLASSES = 12, MOST_FIELDS = 20;

    private static int seen;
    private static int wrong;

    public static void main(String[] args) throws Exception {
        text(Files.readString(SOURCE));
        JavaCompiler javac = ToolProvider.getSystemJavaCompiler();
        try (StandardJavaFileManager files = javac.getStandardFileManager(null, null, null)) {
            JavacTask task = (JavacTask) javac.getTask(null, files, null, List.of("--release", "17"), null,
                files.getJavaFileObjects(SOURCE));
            Reader reader = new Reader(Trees.instance(task));
            for (CompilationUnitTree unit : task.parse()) {
                task.analyze();
                reader.read(unit);
            }
            reader.end();
        }
        System.out.println(seen + " parts of the source, " + wrong + " against the rules");
        if (wrong != 0) {
            System.exit(1);
        }
    }

    private static void rule(int number, boolean holds, String what) {
        seen++;
        if (!holds) {
            wrong++;
            System.out.println("rule " + number + ": " + what);
        }
    }

    private static void text(String source) {
        for (String line : source.split("\n")) {
            rule(4, line.chars().allMatch(sign -> sign >= 32 && sign < 127), "a sign: " + line);
        }
    }

    private static final class Reader extends TreePathScanner<Void, Void> {
        private final Trees trees;
        private CompilationUnitTree unit;
        private final Map<Element, Set<Element>> calls = new HashMap<>();
        private final Map<Element, Integer> depths = new HashMap<>();
        private final Map<String, Integer> fields = new TreeMap<>();
        private final Set<String> publicNames = new TreeSet<>();
        private final Set<String> hiddenNames = new TreeSet<>();
        private final List<Element> counters = new ArrayList<>();
        private Element method;
        private int classes;

        Reader(Trees trees) {
            this.trees = trees;
        }

        void read(CompilationUnitTree tree) {
            unit = tree;
            rule(1, tree.getPackage() == null, "a package");
            rule(1, tree.getTypeDecls().size() == 1, "more than one class in the file");
            scan(tree, null);
        }

        void end() {
            rule(11, classes <= MOST_CLASSES, "classes: " + classes);
            fields.forEach((name, many) -> rule(11, many <= MOST_FIELDS, "fields of " + name + ": " + many));
            for (String name : hiddenNames) {
                rule(1, !publicNames.contains(name), "a method that is not public by the name of a public one: " + name);
            }
            rule(11, calls.size() > 33, "calls were not read");
            for (Element each : calls.keySet()) {
                int deep = depth(each, new ArrayList<>());
                rule(11, deep <= MOST_DEEP, "calls below " + each + " go " + deep + " deep");
            }
        }

        /** How many calls stand open at once, this one among them. */
        private int depth(Element at, List<Element> open) {
            if (open.contains(at)) {
                rule(8, false, "recursion of " + at);
                return 1;
            }
            if (depths.containsKey(at)) {
                return depths.get(at);
            }
            open.add(at);
            int below = 0;
            for (Element next : calls.getOrDefault(at, Set.of())) {
                below = Math.max(below, depth(next, open));
            }
            open.remove(at);
            depths.put(at, below + 1);
            return below + 1;
        }

        private String at(Tree tree) {
            long start = trees.getSourcePositions().getStartPosition(unit, tree);
            return " at line " + unit.getLineMap().getLineNumber(start);
        }

        private long lines(Tree tree) {
            long start = trees.getSourcePositions().getStartPosition(unit, tree);
            long end = trees.getSourcePositions().getEndPosition(unit, tree);
            return unit.getLineMap().getLineNumber(end) - unit.getLineMap().getLineNumber(start) + 1;
        }

        private Element element(Tree tree) {
            return trees.getElement(new TreePath(getCurrentPath(), tree));
        }

        private void never(int number, Tree tree, String what) {
            rule(number, false, what + at(tree));
        }

        private boolean isOwn(Element each) {
            Element outer = each;
            while (outer != null && outer.getKind() != ElementKind.PACKAGE) {
                if (outer.getSimpleName().contentEquals("GridMender")) {
                    return true;
                }
                outer = outer.getEnclosingElement();
            }
            return false;
        }

        @Override
        public Void visitImport(ImportTree tree, Void none) {
            rule(4, tree.toString().trim().equals("import java.util.Arrays;"), "an import" + at(tree));
            return super.visitImport(tree, none);
        }

        @Override
        public Void visitClass(ClassTree tree, Void none) {
            classes++;
            boolean isOuter = getCurrentPath().getParentPath().getLeaf() instanceof CompilationUnitTree;
            boolean isMember = getCurrentPath().getParentPath().getLeaf() instanceof ClassTree;
            Set<Modifier> flags = tree.getModifiers().getFlags();
            rule(2, isOuter || isMember, "a local or anonymous class" + at(tree));
            rule(1, !isOuter || flags.equals(Set.of(Modifier.PUBLIC, Modifier.FINAL)), "the face is public and final");
            rule(1, isOuter || flags.contains(Modifier.STATIC) && !flags.contains(Modifier.PUBLIC)
                && !flags.contains(Modifier.PROTECTED), "an inner class" + at(tree));
            for (Tree member : tree.getMembers()) {
                rule(5, member.getKind() != Tree.Kind.BLOCK, "an initialiser block" + at(member));
            }
            return super.visitClass(tree, none);
        }

        @Override
        public Void visitMethod(MethodTree tree, Void none) {
            Element before = method;
            method = trees.getElement(getCurrentPath());
            calls.putIfAbsent(method, new java.util.HashSet<>());
            boolean isOfFace = method.getEnclosingElement().getSimpleName().contentEquals("GridMender");
            boolean isPublic = method.getModifiers().contains(Modifier.PUBLIC);
            if (method.getKind() != ElementKind.CONSTRUCTOR) {
                (isOfFace && isPublic ? publicNames : hiddenNames).add(method.getSimpleName().toString());
            }
            rule(1, !isOfFace || isPublic || method.getModifiers().contains(Modifier.PRIVATE), "seen outside" + at(tree));
            rule(6, !Set.of("equals", "hashCode", "toString").contains(tree.getName().toString()), "its name" + at(tree));
            rule(11, tree.getParameters().size() <= MOST_PARAMETERS, "parameters" + at(tree));
            rule(11, lines(tree) <= MOST_LINES, "a long method" + at(tree));
            if (tree.getReturnType() != null) {
                type(trees.getTypeMirror(new TreePath(getCurrentPath(), tree.getReturnType())), tree);
            }
            super.visitMethod(tree, none);
            method = before;
            return null;
        }

        private void type(TypeMirror type, Tree tree) {
            TypeMirror inner = type.getKind() == TypeKind.ARRAY ? ((ArrayType) type).getComponentType() : type;
            boolean isPlain = inner.getKind().isPrimitive() && inner.getKind() != TypeKind.DOUBLE
                && inner.getKind() != TypeKind.FLOAT || inner.getKind() == TypeKind.VOID;
            boolean isOwnClass = inner.getKind() == TypeKind.DECLARED && inner.toString().startsWith("GridMender.");
            rule(3, isPlain || isOwnClass, "the type " + type + at(tree));
        }

        @Override
        public Void visitVariable(VariableTree tree, Void none) {
            Element variable = trees.getElement(getCurrentPath());
            type(variable.asType(), tree);
            if (variable.getKind() == ElementKind.FIELD) {
                boolean isStatic = variable.getModifiers().contains(Modifier.STATIC);
                boolean isFinal = variable.getModifiers().contains(Modifier.FINAL);
                rule(5, !isStatic || isFinal && variable.asType().getKind().isPrimitive(), "a static field" + at(tree));
                if (!isStatic) {
                    fields.merge(variable.getEnclosingElement().toString(), 1, Integer::sum);
                }
            }
            return super.visitVariable(tree, none);
        }

        @Override
        public Void visitMethodInvocation(MethodInvocationTree tree, Void none) {
            Element called = element(tree.getMethodSelect());
            String name = called.getEnclosingElement().getSimpleName() + "." + called.getSimpleName();
            rule(4, isOwn(called) || LIBRARY.contains(name), "the library's " + name + at(tree));
            if (isOwn(called) && method != null) {
                calls.get(method).add(called);
            }
            rule(12, method == null || method.getKind() != ElementKind.CONSTRUCTOR || name.equals("Object.<init>"),
                "a constructor that calls a method" + at(tree));
            return super.visitMethodInvocation(tree, none);
        }

        @Override
        public Void visitNewClass(NewClassTree tree, Void none) {
            made(tree);
            rule(3, isOwn(trees.getElement(getCurrentPath())), "an object that is not of the file's classes" + at(tree));
            return super.visitNewClass(tree, none);
        }

        @Override
        public Void visitNewArray(NewArrayTree tree, Void none) {
            made(tree);
            for (ExpressionTree length : tree.getDimensions()) {
                rule(7, isConstant(length), "a length that is no constant" + at(tree));
            }
            return super.visitNewArray(tree, none);
        }

        private boolean isConstant(ExpressionTree number) {
            if (number instanceof BinaryTree both) {
                return isConstant(both.getLeftOperand()) && isConstant(both.getRightOperand());
            }
            return number instanceof LiteralTree || number instanceof IdentifierTree
                && element(number).getModifiers().containsAll(Set.of(Modifier.STATIC, Modifier.FINAL));
        }

        /** Every object is made with a GridMender, none by a call. */
        private void made(Tree tree) {
            rule(12, method == null || method.getKind() == ElementKind.CONSTRUCTOR, "an object is made" + at(tree));
        }

        @Override
        public Void visitForLoop(ForLoopTree tree, Void none) {
            boolean isCounted = tree.getInitializer().size() == 1 && tree.getInitializer().get(0) instanceof VariableTree
                && tree.getCondition() != null && tree.getUpdate().size() == 1;
            rule(9, isCounted, "a for that does not count" + at(tree));
            if (!isCounted) {
                return super.visitForLoop(tree, none);
            }
            VariableTree counter = (VariableTree) tree.getInitializer().get(0);
            String name = counter.getName().toString();
            boolean isUp = tree.getUpdate().get(0).toString().matches(name + "\\+\\+;?");
            boolean isDown = tree.getUpdate().get(0).toString().matches(name + "--;?");
            rule(9, isUp || isDown, "a step that is not one" + at(tree));
            rule(9, hasBound(tree.getCondition(), name, isUp), "a bound of " + name + at(tree));
            scan(tree.getInitializer(), none);
            scan(tree.getCondition(), none);
            counters.add(element(counter));
            scan(tree.getStatement(), none);
            counters.remove(counters.size() - 1);
            return null;
        }

        /** The counter against a bound, by itself or joined to other conditions with &&. */
        private boolean hasBound(ExpressionTree condition, String name, boolean isUp) {
            if (!(condition instanceof BinaryTree both)) {
                return false;
            }
            if (both.getKind() == Tree.Kind.CONDITIONAL_AND) {
                return hasBound(both.getLeftOperand(), name, isUp) || hasBound(both.getRightOperand(), name, isUp);
            }
            boolean isLess = both.getKind() == Tree.Kind.LESS_THAN || both.getKind() == Tree.Kind.LESS_THAN_EQUAL;
            boolean isMore = both.getKind() == Tree.Kind.GREATER_THAN_EQUAL;
            return (isUp ? isLess : isMore) && both.getLeftOperand().toString().matches(name + "( \\+ \\w+)?");
        }

        private void changed(ExpressionTree target, Tree tree) {
            rule(9, !(target instanceof IdentifierTree) || !counters.contains(element(target)), "a counter" + at(tree));
        }

        @Override
        public Void visitAssignment(AssignmentTree tree, Void none) {
            changed(tree.getVariable(), tree);
            return super.visitAssignment(tree, none);
        }

        @Override
        public Void visitCompoundAssignment(CompoundAssignmentTree tree, Void none) {
            rule(7, tree.getKind() != Tree.Kind.DIVIDE_ASSIGNMENT && tree.getKind() != Tree.Kind.REMAINDER_ASSIGNMENT,
                "a divisor" + at(tree));
            changed(tree.getVariable(), tree);
            return super.visitCompoundAssignment(tree, none);
        }

        @Override
        public Void visitUnary(UnaryTree tree, Void none) {
            if (tree.getKind() != Tree.Kind.UNARY_MINUS && tree.getKind() != Tree.Kind.LOGICAL_COMPLEMENT
                && tree.getKind() != Tree.Kind.BITWISE_COMPLEMENT) {
                changed(tree.getExpression(), tree);
            }
            return super.visitUnary(tree, none);
        }

        @Override
        public Void visitBinary(BinaryTree tree, Void none) {
            boolean divides = tree.getKind() == Tree.Kind.DIVIDE || tree.getKind() == Tree.Kind.REMAINDER;
            boolean isByNumber = tree.getRightOperand() instanceof LiteralTree number
                && number.getValue() instanceof Integer value && value > 0;
            rule(7, !divides || isByNumber, "a divisor that is no number above 0" + at(tree));
            return super.visitBinary(tree, none);
        }

        @Override
        public Void visitTypeCast(TypeCastTree tree, Void none) {
            rule(6, trees.getTypeMirror(getCurrentPath()).getKind().isPrimitive(), "a cast of objects" + at(tree));
            return super.visitTypeCast(tree, none);
        }

        @Override
        public Void visitSwitch(SwitchTree tree, Void none) {
            tree.getCases().forEach(each -> each.getExpressions().forEach(label ->
                rule(6, label instanceof LiteralTree, "a switch that is not on numbers" + at(tree))));
            return super.visitSwitch(tree, none);
        }

        @Override
        public Void visitSwitchExpression(SwitchExpressionTree tree, Void none) {
            never(10, tree, "a switch that is an expression");
            return super.visitSwitchExpression(tree, none);
        }

        @Override
        public Void visitWhileLoop(WhileLoopTree tree, Void none) {
            never(9, tree, "a while, that has no counter");
            return super.visitWhileLoop(tree, none);
        }

        @Override
        public Void visitDoWhileLoop(DoWhileLoopTree tree, Void none) {
            never(9, tree, "a do, that has no counter");
            return super.visitDoWhileLoop(tree, none);
        }

        @Override
        public Void visitEnhancedForLoop(EnhancedForLoopTree tree, Void none) {
            rule(12, trees.getTypeMirror(new TreePath(getCurrentPath(), tree.getExpression())).getKind() == TypeKind.ARRAY,
                "a for over what is no array" + at(tree));
            return super.visitEnhancedForLoop(tree, none);
        }

        @Override
        public Void visitLambdaExpression(LambdaExpressionTree tree, Void none) {
            never(2, tree, "a lambda");
            return super.visitLambdaExpression(tree, none);
        }

        @Override
        public Void visitMemberReference(MemberReferenceTree tree, Void none) {
            never(2, tree, "a method reference");
            return super.visitMemberReference(tree, none);
        }

        @Override
        public Void visitThrow(ThrowTree tree, Void none) {
            never(6, tree, "throw");
            return super.visitThrow(tree, none);
        }

        @Override
        public Void visitTry(TryTree tree, Void none) {
            never(6, tree, "try");
            return super.visitTry(tree, none);
        }

        @Override
        public Void visitSynchronized(SynchronizedTree tree, Void none) {
            never(6, tree, "synchronized");
            return super.visitSynchronized(tree, none);
        }

        @Override
        public Void visitAssert(AssertTree tree, Void none) {
            never(6, tree, "assert");
            return super.visitAssert(tree, none);
        }

        @Override
        public Void visitInstanceOf(InstanceOfTree tree, Void none) {
            never(6, tree, "instanceof, of which there is no need");
            return super.visitInstanceOf(tree, none);
        }
    }
}
