import com.sun.source.tree.AnnotationTree;
import com.sun.source.tree.AssertTree;
import com.sun.source.tree.AssignmentTree;
import com.sun.source.tree.BinaryTree;
import com.sun.source.tree.ClassTree;
import com.sun.source.tree.CompilationUnitTree;
import com.sun.source.tree.CompoundAssignmentTree;
import com.sun.source.tree.ConditionalExpressionTree;
import com.sun.source.tree.DoWhileLoopTree;
import com.sun.source.tree.EnhancedForLoopTree;
import com.sun.source.tree.ForLoopTree;
import com.sun.source.tree.ImportTree;
import com.sun.source.tree.InstanceOfTree;
import com.sun.source.tree.LambdaExpressionTree;
import com.sun.source.tree.MemberReferenceTree;
import com.sun.source.tree.MethodInvocationTree;
import com.sun.source.tree.MethodTree;
import com.sun.source.tree.NewArrayTree;
import com.sun.source.tree.NewClassTree;
import com.sun.source.tree.SynchronizedTree;
import com.sun.source.tree.ThrowTree;
import com.sun.source.tree.Tree;
import com.sun.source.tree.TryTree;
import com.sun.source.tree.TypeCastTree;
import com.sun.source.tree.VariableTree;
import com.sun.source.tree.WhileLoopTree;
import com.sun.source.util.JavacTask;
import com.sun.source.util.TreePath;
import com.sun.source.util.TreePathScanner;
import com.sun.source.util.Trees;
import java.nio.file.Path;
import java.util.ArrayList;
import java.util.LinkedHashMap;
import java.util.LinkedHashSet;
import java.util.List;
import java.util.Map;
import java.util.Set;
import javax.lang.model.element.Element;
import javax.lang.model.element.ElementKind;
import javax.lang.model.element.Modifier;
import javax.tools.JavaCompiler;
import javax.tools.StandardJavaFileManager;
import javax.tools.ToolProvider;

/**
 * The rules of LANGUAGE.md, by their numbers, looked up in the tree that javac itself makes of the source:
 * which library is called, what is made where, how deep calls go, and that every loop counts. It is narrower
 * than the rules where the class needs less than they leave (types, loops, casts, no call that makes an object).
 */
public final class LanguageTest {
    private static final int DEEPEST_CALLS = 8;
    private static final int LONGEST_METHOD = 60;
    private static final int MOST_CLASSES = 12;
    private static final int MOST_FIELDS = 20;
    private static final int MOST_PARAMETERS = 7;
    private static final Set<String> LIBRARY = Set.of("Math.abs", "Math.max", "Math.min");
    private static final Set<String> TYPES = Set.of(
        "int", "boolean", "char", "int[]", "char[]", "State", "State[]", "Bottle", "Bottle[]", "Cable", "Water",
        "Messengers", "History", "Text", "Cast");

    private static int wrong;

    public static void main(String[] args) throws Exception {
        Path source = Path.of(args.length > 0 ? args[0] : "src/main/java/MessengerCasts.java");
        JavaCompiler javac = ToolProvider.getSystemJavaCompiler();
        try (StandardJavaFileManager files = javac.getStandardFileManager(null, null, null)) {
            JavacTask task = (JavacTask) javac.getTask(
                null, files, null, List.of("-proc:none"), null, files.getJavaFileObjects(source));
            CompilationUnitTree unit = task.parse().iterator().next();
            task.analyze();
            Rules rules = new Rules(Trees.instance(task), unit);
            rules.scan(unit, null);
            rules.deepCalls();
            rules.all();
        }
        System.out.println("LanguageTest: " + wrong + " wrong");
        if (wrong != 0) {
            System.exit(1);
        }
    }

    /** One walk over the tree; behind it, what was gathered is looked at as a whole. */
    private static final class Rules extends TreePathScanner<Void, Void> {
        private final Trees trees;
        private final CompilationUnitTree unit;
        private final Map<Element, Set<Element>> calls = new LinkedHashMap<>();
        private int classes;
        private int loops;
        private int libraryCalls;

        Rules(Trees trees, CompilationUnitTree unit) {
            this.trees = trees;
            this.unit = unit;
        }

        private void fail(int rule, Tree tree, String what) {
            wrong++;
            System.out.println("rule " + rule + ", line " + line(trees.getSourcePositions().getStartPosition(unit, tree))
                + ": " + what);
        }

        private long line(long position) {
            return position < 0 ? 0 : unit.getLineMap().getLineNumber(position);
        }

        private long lines(Tree tree) {
            return line(trees.getSourcePositions().getEndPosition(unit, tree))
                - line(trees.getSourcePositions().getStartPosition(unit, tree)) + 1;
        }

        private Element element() {
            return trees.getElement(getCurrentPath());
        }

        /** The method or constructor that stands around, or null. */
        private MethodTree around() {
            for (TreePath path = getCurrentPath(); path != null; path = path.getParentPath()) {
                if (path.getLeaf() instanceof MethodTree) {
                    return (MethodTree) path.getLeaf();
                }
            }
            return null;
        }

        private boolean isMadeOnce() {
            MethodTree method = around();
            return method == null || method.getReturnType() == null;
        }

        private boolean isText(Tree part) {
            return String.valueOf(trees.getTypeMirror(new TreePath(getCurrentPath(), part))).equals("java.lang.String");
        }

        // ---- what may not stand there at all

        @Override public Void visitThrow(ThrowTree t, Void v) { fail(6, t, "throw"); return super.visitThrow(t, v); }

        @Override public Void visitTry(TryTree t, Void v) { fail(6, t, "try"); return super.visitTry(t, v); }

        @Override public Void visitAssert(AssertTree t, Void v) { fail(6, t, "assert"); return super.visitAssert(t, v); }

        @Override public Void visitSynchronized(SynchronizedTree t, Void v) {
            fail(6, t, "synchronized");
            return super.visitSynchronized(t, v);
        }

        @Override public Void visitLambdaExpression(LambdaExpressionTree t, Void v) {
            fail(2, t, "a lambda");
            return super.visitLambdaExpression(t, v);
        }

        @Override public Void visitMemberReference(MemberReferenceTree t, Void v) {
            fail(2, t, "a method reference");
            return super.visitMemberReference(t, v);
        }

        @Override public Void visitImport(ImportTree t, Void v) {
            fail(4, t, "an import");
            return super.visitImport(t, v);
        }

        @Override public Void visitAnnotation(AnnotationTree t, Void v) {
            fail(4, t, "an annotation");
            return super.visitAnnotation(t, v);
        }

        @Override public Void visitInstanceOf(InstanceOfTree t, Void v) {
            fail(6, t, "instanceof, where no class is above another");
            return super.visitInstanceOf(t, v);
        }

        @Override public Void visitTypeCast(TypeCastTree t, Void v) {
            if (!Set.of("char", "int").contains(t.getType().toString())) {
                fail(6, t, "a cast to " + t.getType());
            }
            return super.visitTypeCast(t, v);
        }

        // ---- classes, members, types

        @Override public Void visitClass(ClassTree t, Void v) {
            classes++;
            boolean isOuter = getCurrentPath().getParentPath().getLeaf() instanceof CompilationUnitTree;
            Set<Modifier> flags = t.getModifiers().getFlags();
            if (isOuter && !flags.equals(Set.of(Modifier.PUBLIC, Modifier.FINAL))) {
                fail(1, t, "the class is " + flags);
            }
            if (!isOuter && (!flags.contains(Modifier.STATIC) || flags.contains(Modifier.PUBLIC) || around() != null)) {
                fail(2, t, "the class " + t.getSimpleName() + " inside is " + flags);
            }
            int fields = 0;
            for (Tree member : t.getMembers()) {
                if (member instanceof VariableTree && !((VariableTree) member).getModifiers().getFlags().contains(Modifier.STATIC)) {
                    fields++;
                }
                if (member.getKind() == Tree.Kind.BLOCK) {
                    fail(5, member, "an initialiser block");
                }
            }
            if (fields > MOST_FIELDS) {
                fail(11, t, fields + " fields in " + t.getSimpleName());
            }
            return super.visitClass(t, v);
        }

        @Override public Void visitVariable(VariableTree t, Void v) {
            if (!TYPES.contains(t.getType().toString())) {
                fail(3, t, "the type " + t.getType());
            }
            Set<Modifier> flags = t.getModifiers().getFlags();
            if (flags.contains(Modifier.STATIC) && !flags.contains(Modifier.FINAL)) {
                fail(5, t, t.getName() + " is static and not final");
            }
            return super.visitVariable(t, v);
        }

        @Override public Void visitMethod(MethodTree t, Void v) {
            calls.computeIfAbsent(element(), x -> new LinkedHashSet<>());
            if (t.getParameters().size() > MOST_PARAMETERS) {
                fail(11, t, t.getName() + " takes " + t.getParameters().size() + " parameters");
            }
            if (lines(t) > LONGEST_METHOD) {
                fail(11, t, t.getName() + " has " + lines(t) + " lines");
            }
            if (!t.getThrows().isEmpty()) {
                fail(6, t, t.getName() + " names exceptions");
            }
            if (List.of("equals", "hashCode", "toString").contains(t.getName().toString())) {
                fail(6, t, t.getName().toString());
            }
            return super.visitMethod(t, v);
        }

        // ---- what is made, and called

        @Override public Void visitNewClass(NewClassTree t, Void v) {
            if (t.getClassBody() != null) {
                fail(2, t, "a class without a name");
            }
            if (!isMadeOnce()) {
                fail(12, t, "a call makes an object");
            }
            return super.visitNewClass(t, v);
        }

        @Override public Void visitNewArray(NewArrayTree t, Void v) {
            if (!isMadeOnce()) {
                fail(12, t, "a call makes an array");
            }
            return super.visitNewArray(t, v);
        }

        @Override public Void visitMethodInvocation(MethodInvocationTree t, Void v) {
            Element called = element();
            Element owner = called.getEnclosingElement();
            if (String.valueOf(owner).startsWith("MessengerCasts")) {
                MethodTree method = around();
                if (method != null) {
                    Element caller = trees.getElement(trees.getPath(unit, method));
                    calls.computeIfAbsent(caller, x -> new LinkedHashSet<>()).add(called);
                }
            } else if (owner.getSimpleName().contentEquals("Math")) {
                libraryCalls++;
                if (!LIBRARY.contains("Math." + called.getSimpleName())) {
                    fail(4, t, "Math." + called.getSimpleName());
                }
            } else if (called.getKind() != ElementKind.CONSTRUCTOR) {
                fail(4, t, "a call of " + owner + "." + called.getSimpleName());
            }
            return super.visitMethodInvocation(t, v);
        }

        // ---- loops, divisors, texts

        @Override public Void visitForLoop(ForLoopTree t, Void v) {
            loops++;
            String update = t.getUpdate().toString();
            String bound = String.valueOf(t.getCondition());
            boolean rises = update.matches("i\\+\\+;?") && bound.matches("(.* && )?i <=? .*");
            boolean falls = update.matches("i--;?") && bound.matches("(.* && )?i >=? .*");
            if (!rises && !falls || bound.contains("||")) {
                fail(9, t, "a loop that does not count against a bound");
            }
            return super.visitForLoop(t, v);
        }

        @Override public Void visitAssignment(AssignmentTree t, Void v) {
            if (t.getVariable().toString().equals("i")) {
                fail(9, t, "a counter that is set in its loop");
            }
            return super.visitAssignment(t, v);
        }

        @Override public Void visitCompoundAssignment(CompoundAssignmentTree t, Void v) {
            if (t.getVariable().toString().equals("i")) {
                fail(9, t, "a counter that is set in its loop");
            }
            return super.visitCompoundAssignment(t, v);
        }

        @Override public Void visitWhileLoop(WhileLoopTree t, Void v) {
            fail(9, t, "a loop without a counter");
            return super.visitWhileLoop(t, v);
        }

        @Override public Void visitDoWhileLoop(DoWhileLoopTree t, Void v) {
            fail(9, t, "a loop without a counter");
            return super.visitDoWhileLoop(t, v);
        }

        @Override public Void visitEnhancedForLoop(EnhancedForLoopTree t, Void v) {
            loops++;
            return super.visitEnhancedForLoop(t, v);
        }

        @Override public Void visitBinary(BinaryTree t, Void v) {
            boolean divides = t.getKind() == Tree.Kind.DIVIDE || t.getKind() == Tree.Kind.REMAINDER;
            String divisor = t.getRightOperand().toString();
            if (divides && !divisor.matches("[A-Z_]+|[1-9][0-9]*") && !isTestedAhead(divisor)) {
                fail(7, t, "the divisor " + divisor + " is not looked at");
            }
            if (isText(t.getLeftOperand()) || isText(t.getRightOperand())) {
                fail(10, t, "texts are joined or compared");
            }
            return super.visitBinary(t, v);
        }

        private boolean isTestedAhead(String divisor) {
            for (TreePath path = getCurrentPath(); path != null; path = path.getParentPath()) {
                Tree leaf = path.getLeaf();
                if (leaf instanceof ConditionalExpressionTree) {
                    String test = ((ConditionalExpressionTree) leaf).getCondition().toString();
                    return test.equals("(" + divisor + " < 1)") || test.equals(divisor + " < 1");
                }
            }
            return false;
        }

        // ---- the whole

        /** No method calls itself by any way, and the calls that stand open at once are few. */
        void deepCalls() {
            for (Element method : calls.keySet()) {
                int deep = deepBelow(method, new ArrayList<>());
                if (deep > DEEPEST_CALLS) {
                    wrong++;
                    System.out.println("rule 11: " + method + " goes " + deep + " deep");
                }
            }
        }

        private int deepBelow(Element method, List<Element> open) {
            if (open.contains(method)) {
                wrong++;
                System.out.println("rule 8: " + method + " calls itself");
                return 0;
            }
            open.add(method);
            int most = 0;
            for (Element called : calls.getOrDefault(method, Set.of())) {
                most = Math.max(most, deepBelow(called, open));
            }
            open.remove(method);
            return most + 1;
        }

        /** The walk went through the file: it would else find nothing wrong in nothing. */
        void all() {
            if (classes < 2 || classes > MOST_CLASSES) {
                wrong++;
                System.out.println("rule 11: there are " + classes + " classes");
            }
            if (loops == 0 || libraryCalls == 0 || calls.size() < 25) {
                wrong++;
                System.out.println("the walk met " + loops + " loops, " + libraryCalls + " library calls, "
                    + calls.size() + " methods");
            }
        }
    }
}
