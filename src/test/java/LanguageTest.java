import com.sun.source.tree.AssertTree;
import com.sun.source.tree.BinaryTree;
import com.sun.source.tree.BlockTree;
import com.sun.source.tree.ClassTree;
import com.sun.source.tree.CompilationUnitTree;
import com.sun.source.tree.CompoundAssignmentTree;
import com.sun.source.tree.DoWhileLoopTree;
import com.sun.source.tree.ExpressionTree;
import com.sun.source.tree.ForLoopTree;
import com.sun.source.tree.LambdaExpressionTree;
import com.sun.source.tree.LiteralTree;
import com.sun.source.tree.MemberReferenceTree;
import com.sun.source.tree.MethodInvocationTree;
import com.sun.source.tree.MethodTree;
import com.sun.source.tree.NewArrayTree;
import com.sun.source.tree.NewClassTree;
import com.sun.source.tree.SynchronizedTree;
import com.sun.source.tree.ThrowTree;
import com.sun.source.tree.Tree;
import com.sun.source.tree.TryTree;
import com.sun.source.tree.TypeCastTree;
import com.sun.source.tree.VariableTree;
import com.sun.source.tree.WhileLoopTree;
import com.sun.source.util.JavacTask;
import com.sun.source.util.TreePath;
import com.sun.source.util.TreePathScanner;
import com.sun.source.util.Trees;
import java.io.IOException;
import java.util.HashMap;
import java.util.HashSet;
import java.util.List;
import java.util.Map;
import java.util.Set;
import java.util.TreeSet;
import javax.lang.model.element.Element;
import javax.lang.model.element.Modifier;
import javax.lang.model.element.TypeElement;
import javax.lang.model.type.ArrayType;
import javax.lang.model.type.TypeKind;
import javax.lang.model.type.TypeMirror;
import javax.tools.JavaCompiler;
import javax.tools.StandardJavaFileManager;
import javax.tools.ToolProvider;

/** The rules of LANGUAGE.md, so far as the class's own lines show whether they are kept. */
public final class LanguageTest {
    private static final int MOST_CLASSES = 12;
    private static final int MOST_FIELDS = 20;
    private static final int MOST_PARAMETERS = 7;
    private static final int MOST_LINES = 60;
    private static final int MOST_CALLS_DEEP = 8;

    // What the class uses of rule 4; a rule 4 call that is new to it is added here.
    private static final Set<String> LIBRARY = Set.of(
        "java.lang.String.length", "java.lang.String.charAt",
        "java.lang.Math.abs", "java.lang.Math.max", "java.lang.Math.min", "java.lang.Math.floorDiv",
        "java.lang.Integer.bitCount", "java.lang.System.arraycopy", "java.util.Arrays.fill");

    private static final Set<String> OWN_NUMBERS = Set.of("int", "long", "short", "byte", "char", "boolean");

    private final Trees trees;
    private final CompilationUnitTree unit;
    private final TreeSet<String> broken = new TreeSet<>();
    private final Map<Element, Set<Element>> calls = new HashMap<>();
    private int looked = 0;

    private LanguageTest(Trees trees, CompilationUnitTree unit) {
        this.trees = trees;
        this.unit = unit;
    }

    public static void main(String[] args) throws IOException {
        JavaCompiler compiler = ToolProvider.getSystemJavaCompiler();
        try (StandardJavaFileManager files = compiler.getStandardFileManager(null, null, null)) {
            JavacTask task = (JavacTask) compiler.getTask(null, files, null, null, null,
                files.getJavaFileObjects(Project.file("src/main/java/VoltNumbers.java")));
            CompilationUnitTree unit = task.parse().iterator().next();
            task.analyze();
            LanguageTest it = new LanguageTest(Trees.instance(task), unit);
            it.new Walk().scan(unit, null);
            it.lookAtUnit();
            it.lookAtDepth();
            it.finish();
        }
    }

    private void finish() {
        for (String row : broken) {
            System.out.println(row);
        }
        System.out.println("LanguageTest: " + looked + " places, " + broken.size() + " against the rules");
        if (!broken.isEmpty() || looked == 0) {
            System.exit(1);
        }
    }

    private void rule(int number, boolean kept, Tree where, String what) {
        looked++;
        if (!kept) {
            broken.add("rule " + number + ", line " + lineOf(where) + ": " + what);
        }
    }

    private long lineOf(Tree where) {
        return unit.getLineMap().getLineNumber(trees.getSourcePositions().getStartPosition(unit, where));
    }

    private long linesOf(Tree where) {
        long end = trees.getSourcePositions().getEndPosition(unit, where);
        return unit.getLineMap().getLineNumber(end) - lineOf(where) + 1;
    }

    private void lookAtUnit() {
        rule(1, unit.getPackageName() == null, unit, "a package line");
        rule(1, unit.getTypeDecls().size() == 1, unit, "more than one class in the file");
    }

    /** Rules 8 and 11: nothing calls itself, and calls go eight deep at most. */
    private void lookAtDepth() {
        for (Element method : calls.keySet()) {
            int deep = depth(method, new HashSet<>());
            rule(8, deep <= calls.size(), unit, method + " comes to call itself");
            rule(11, deep <= MOST_CALLS_DEEP, unit, method + " goes " + deep + " calls deep");
        }
    }

    private int depth(Element method, Set<Element> open) {
        if (!open.add(method)) {
            return calls.size() + 1;
        }
        int deepest = 0;
        for (Element called : calls.getOrDefault(method, Set.of())) {
            deepest = Math.max(deepest, depth(called, open));
        }
        open.remove(method);
        return 1 + deepest;
    }

    private static boolean isOwn(TypeMirror type) {
        return type.toString().startsWith("VoltNumbers");
    }

    /** Rule 3, in the part of it that the class uses. */
    private static boolean isAllowed(TypeMirror type) {
        if (type instanceof ArrayType) {
            TypeMirror cells = ((ArrayType) type).getComponentType();
            return cells.getKind() != TypeKind.ARRAY && isAllowed(cells);
        }
        return OWN_NUMBERS.contains(type.toString()) || isOwn(type) || isText(type);
    }

    private static boolean isText(TypeMirror type) {
        return type.toString().equals("java.lang.String");
    }

    private static boolean isBoxed(TypeMirror type) {
        return type.toString().equals("java.lang.Integer");
    }

    /** Looks at each place of the file. */
    private final class Walk extends TreePathScanner<Void, Void> {
        private int classes = 0;
        private Element method = null;
        private String methodText = "";

        @Override
        public Void visitClass(ClassTree tree, Void nothing) {
            Set<Modifier> how = tree.getModifiers().getFlags();
            Tree around = getCurrentPath().getParentPath().getLeaf();
            boolean outer = around instanceof CompilationUnitTree;
            if (outer) {
                rule(1, how.contains(Modifier.PUBLIC) && how.contains(Modifier.FINAL), tree, "not public and final");
            } else {
                rule(2, around instanceof ClassTree && how.contains(Modifier.STATIC), tree, "a class that is not static");
                rule(1, !how.contains(Modifier.PUBLIC) && !how.contains(Modifier.PROTECTED), tree, "a class to be seen");
            }
            classes++;
            rule(11, classes <= MOST_CLASSES, tree, classes + " classes");
            lookAtMembers(tree, outer);
            return super.visitClass(tree, nothing);
        }

        private void lookAtMembers(ClassTree tree, boolean outer) {
            int fields = 0;
            for (Tree member : tree.getMembers()) {
                rule(5, !(member instanceof BlockTree), member, "an initialiser block");
                if (member instanceof VariableTree) {
                    VariableTree field = (VariableTree) member;
                    Set<Modifier> how = field.getModifiers().getFlags();
                    boolean constant = how.contains(Modifier.STATIC);
                    rule(5, !constant || how.contains(Modifier.FINAL), field, "static state " + field.getName());
                    rule(1, !outer || how.contains(Modifier.PRIVATE) || constant && how.contains(Modifier.PUBLIC),
                        field, "a field to be seen: " + field.getName());
                    fields += constant ? 0 : 1;
                }
            }
            rule(11, fields <= MOST_FIELDS, tree, fields + " fields");
        }

        @Override
        public Void visitMethod(MethodTree tree, Void nothing) {
            rule(11, tree.getParameters().size() <= MOST_PARAMETERS, tree, "parameters of " + tree.getName());
            if (tree.getBody() != null && lineOf(tree) > 0) {
                rule(11, linesOf(tree) <= MOST_LINES, tree, linesOf(tree) + " lines of " + tree.getName());
            }
            rule(6, !Set.of("equals", "hashCode", "toString").contains(tree.getName().toString()), tree,
                "a " + tree.getName() + " of its own");
            method = trees.getElement(getCurrentPath());
            methodText = tree.toString();
            calls.putIfAbsent(method, new HashSet<>());
            super.visitMethod(tree, nothing);
            method = null;
            methodText = "";
            return null;
        }

        @Override
        public Void visitVariable(VariableTree tree, Void nothing) {
            TypeMirror type = trees.getTypeMirror(getCurrentPath());
            rule(3, isAllowed(type), tree, "the type " + type);
            return super.visitVariable(tree, nothing);
        }

        @Override
        public Void visitMethodInvocation(MethodInvocationTree tree, Void nothing) {
            Element called = trees.getElement(getCurrentPath());
            TypeElement owner = (TypeElement) called.getEnclosingElement();
            String name = owner.getQualifiedName() + "." + called.getSimpleName();
            boolean begins = name.equals("java.lang.Object.<init>");
            if (isOwn(owner.asType())) {
                noteCall(called);
            } else {
                rule(4, begins || LIBRARY.contains(name), tree, name);
            }
            return super.visitMethodInvocation(tree, nothing);
        }

        private void noteCall(Element called) {
            if (method != null) {
                calls.get(method).add(called);
            }
        }

        @Override
        public Void visitNewClass(NewClassTree tree, Void nothing) {
            rule(2, tree.getClassBody() == null, tree, "an anonymous class");
            rule(3, isOwn(trees.getTypeMirror(getCurrentPath())), tree, "an object of the library");
            onlyAtFirst(tree);
            noteCall(trees.getElement(getCurrentPath()));
            return super.visitNewClass(tree, nothing);
        }

        @Override
        public Void visitNewArray(NewArrayTree tree, Void nothing) {
            onlyAtFirst(tree);
            return super.visitNewArray(tree, nothing);
        }

        /** Rule 12 allows more; but so the room of a run does not depend on how many calls it has. */
        private void onlyAtFirst(Tree tree) {
            boolean first = method == null || method.getSimpleName().contentEquals("<init>");
            rule(12, first, tree, "something is made outside of a constructor");
        }

        @Override
        public Void visitBinary(BinaryTree tree, Void nothing) {
            TypeMirror left = typeOf(tree.getLeftOperand());
            TypeMirror right = typeOf(tree.getRightOperand());
            switch (tree.getKind()) {
                case DIVIDE:
                case REMAINDER:
                    lookAtDivisor(tree, tree.getRightOperand());
                    break;
                case EQUAL_TO:
                case NOT_EQUAL_TO:
                    rule(6, !(isText(left) && isText(right)) && !(isBoxed(left) && isBoxed(right)), tree, "== of two texts");
                    break;
                case PLUS:
                    rule(10, !isText(left) && !isText(right), tree, "texts joined by +");
                    break;
                default:
                    break;
            }
            return super.visitBinary(tree, nothing);
        }

        @Override
        public Void visitCompoundAssignment(CompoundAssignmentTree tree, Void nothing) {
            rule(10, !isText(typeOf(tree.getVariable())), tree, "texts joined by +=");
            if (tree.getKind() == Tree.Kind.DIVIDE_ASSIGNMENT || tree.getKind() == Tree.Kind.REMAINDER_ASSIGNMENT) {
                lookAtDivisor(tree, tree.getExpression());
            }
            return super.visitCompoundAssignment(tree, nothing);
        }

        private TypeMirror typeOf(ExpressionTree tree) {
            return trees.getTypeMirror(new TreePath(getCurrentPath(), tree));
        }

        /** Rule 7: its own method must ask a divisor about 0, unless it is a number above 0. */
        private void lookAtDivisor(Tree where, ExpressionTree divisor) {
            if (divisor instanceof LiteralTree) {
                rule(7, !divisor.toString().equals("0"), where, "divided by 0");
                return;
            }
            boolean asked = false;
            for (String sign : List.of("==", "!=", "<=", ">")) {
                asked |= methodText.contains(divisor + " " + sign + " 0");
            }
            rule(7, asked, where, "a divisor that was not looked at: " + divisor);
        }

        @Override
        public Void visitTypeCast(TypeCastTree tree, Void nothing) {
            rule(6, OWN_NUMBERS.contains(tree.getType().toString()), tree, "a cast of objects");
            return super.visitTypeCast(tree, nothing);
        }

        @Override
        public Void visitWhileLoop(WhileLoopTree tree, Void nothing) {
            rule(9, isBounded(tree.getCondition()), tree, "a loop without a bound");
            return super.visitWhileLoop(tree, nothing);
        }

        @Override
        public Void visitDoWhileLoop(DoWhileLoopTree tree, Void nothing) {
            rule(9, isBounded(tree.getCondition()), tree, "a loop without a bound");
            return super.visitDoWhileLoop(tree, nothing);
        }

        @Override
        public Void visitForLoop(ForLoopTree tree, Void nothing) {
            rule(9, isBounded(tree.getCondition()) && !tree.getUpdate().isEmpty(), tree, "a loop without a bound");
            return super.visitForLoop(tree, nothing);
        }

        /** A counter against a bound, alone or joined by && with more. */
        private boolean isBounded(Tree condition) {
            if (condition == null) {
                return false;
            }
            String text = condition.toString();
            return !text.contains("||") && (text.contains(" < ") || text.contains(" <= ") || text.contains(" >= "));
        }

        @Override
        public Void visitThrow(ThrowTree tree, Void nothing) {
            rule(6, false, tree, "throw");
            return super.visitThrow(tree, nothing);
        }

        @Override
        public Void visitTry(TryTree tree, Void nothing) {
            rule(6, false, tree, "try");
            return super.visitTry(tree, nothing);
        }

        @Override
        public Void visitSynchronized(SynchronizedTree tree, Void nothing) {
            rule(6, false, tree, "synchronized");
            return super.visitSynchronized(tree, nothing);
        }

        @Override
        public Void visitAssert(AssertTree tree, Void nothing) {
            rule(6, false, tree, "assert");
            return super.visitAssert(tree, nothing);
        }

        @Override
        public Void visitLambdaExpression(LambdaExpressionTree tree, Void nothing) {
            rule(2, false, tree, "a lambda");
            return super.visitLambdaExpression(tree, nothing);
        }

        @Override
        public Void visitMemberReference(MemberReferenceTree tree, Void nothing) {
            rule(2, false, tree, "a method reference");
            return super.visitMemberReference(tree, nothing);
        }
    }
}
