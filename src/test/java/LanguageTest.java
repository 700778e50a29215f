import com.sun.source.tree.AssertTree;
import com.sun.source.tree.BinaryTree;
import com.sun.source.tree.CatchTree;
import com.sun.source.tree.ClassTree;
import com.sun.source.tree.CompilationUnitTree;
import com.sun.source.tree.CompoundAssignmentTree;
import com.sun.source.tree.DoWhileLoopTree;
import com.sun.source.tree.ExpressionTree;
import com.sun.source.tree.ForLoopTree;
import com.sun.source.tree.LambdaExpressionTree;
import com.sun.source.tree.MemberReferenceTree;
import com.sun.source.tree.MethodInvocationTree;
import com.sun.source.tree.MethodTree;
import com.sun.source.tree.NewArrayTree;
import com.sun.source.tree.NewClassTree;
import com.sun.source.tree.SynchronizedTree;
import com.sun.source.tree.ThrowTree;
import com.sun.source.tree.Tree;
import com.sun.source.tree.TryTree;
import com.sun.source.tree.TypeCastTree;
import com.sun.source.tree.VariableTree;
import com.sun.source.tree.WhileLoopTree;
import com.sun.source.util.JavacTask;
import com.sun.source.util.TreePath;
import com.sun.source.util.TreePathScanner;
import com.sun.source.util.TreeScanner;
import com.sun.source.util.Trees;
import java.io.IOException;
import java.nio.file.Path;
import java.util.ArrayList;
import java.util.HashSet;
import java.util.LinkedHashMap;
import java.util.List;
import java.util.Map;
import java.util.Set;
import java.util.TreeSet;
import javax.lang.model.element.Element;
import javax.lang.model.element.ElementKind;
import javax.lang.model.element.ExecutableElement;
import javax.lang.model.element.Modifier;
import javax.lang.model.element.TypeElement;
import javax.lang.model.element.VariableElement;
import javax.lang.model.type.ArrayType;
import javax.lang.model.type.TypeMirror;
import javax.tools.JavaCompiler;
import javax.tools.StandardJavaFileManager;
import javax.tools.ToolProvider;

/** The rules of LANGUAGE.md, by number, held against the class as the compiler reads it. */
public final class LanguageTest {
    /** Of the library only what rule 4 lists and the class may come to use; 'Math' and 'Integer' are looked at by name. */
    private static final Set<String> OF_STRINGS = Set.of("length", "charAt", "isEmpty", "equals", "indexOf", "substring",
        "toCharArray");
    private static final int MOST_PARAMETERS = 7, MOST_LINES = 60, MOST_CLASSES = 12, MOST_FIELDS = 20, MOST_DEPTH = 8;

    private final Trees trees;
    private final CompilationUnitTree unit;
    /** Who calls whom, by the whole name. */
    private final Map<String, Set<String>> calls = new LinkedHashMap<>();
    private int rulesAsked = 0;

    private LanguageTest(Trees trees, CompilationUnitTree unit) {
        this.trees = trees;
        this.unit = unit;
    }

    public static void main(String[] args) throws IOException {
        JavaCompiler compiler = ToolProvider.getSystemJavaCompiler();
        try (StandardJavaFileManager files = compiler.getStandardFileManager(null, null, null)) {
            JavacTask task = (JavacTask) compiler.getTask(null, files, null, List.of("--release", "17"), null,
                files.getJavaFileObjects(Path.of("src/main/java/BargeTalks.java")));
            CompilationUnitTree unit = task.parse().iterator().next();
            task.analyze();
            new LanguageTest(Trees.instance(task), unit).holdAll();
        }
        Checks.finish();
    }

    private void holdAll() {
        Checks.due("rule 4: imports", unit.getImports().size(), 0);
        Checks.due("one public class", unit.getTypeDecls().size(), 1);
        Scan scan = new Scan();
        scan.scan(unit, null);
        Checks.due("rule 11: some twelve classes", scan.classes <= MOST_CLASSES ? 0 : scan.classes, 0);
        Checks.due("rule 12: 'new' outside of constructors", scan.madeInCalls, 0);
        recursion();
        depth();
        Checks.due("rules were asked", rulesAsked > 1000 ? 0 : 1, 0);
    }

    private void rule(int number, Tree where, String what, boolean holds) {
        rulesAsked++;
        if (!holds) {
            long at = trees.getSourcePositions().getStartPosition(unit, where);
            Checks.due("rule " + number + ", line " + unit.getLineMap().getLineNumber(at) + ": " + what, 1, 0);
        }
    }

    /** Rule 8: who calls itself carries how far it has come, and its first line ends it. */
    private void recursion() {
        for (String who : calls.keySet()) {
            if (reached(who, new HashSet<>()).contains(who)) {
                boolean known = List.of("Fog.waysWithoutEnd", "Fog.wordsInAllWays").contains(who);
                Checks.due("rule 8: " + who + " calls itself", known ? 0 : 1, 0);
            }
        }
    }

    private Set<String> reached(String who, Set<String> found) {
        for (String next : calls.getOrDefault(who, Set.of())) {
            if (found.add(next)) {
                reached(next, found);
            }
        }
        return found;
    }

    private void depth() {
        for (String who : calls.keySet()) {
            int deep = depthOf(who);
            Checks.due("rule 11: " + who + " goes " + deep + " deep", deep <= MOST_DEPTH ? 0 : 1, 0);
        }
    }

    /** A call of the library, as every method may make one, counts as one level more. */
    private int depthOf(String who) {
        int deepest = 1;
        for (String next : calls.getOrDefault(who, Set.of())) {
            if (!next.equals(who)) {
                deepest = Math.max(deepest, depthOf(next));
            }
        }
        return deepest + 1;
    }

    private static String nameOf(Element method) {
        return method.getEnclosingElement().getSimpleName() + "." + method.getSimpleName();
    }

    /** Looks at every piece of the source once. */
    private final class Scan extends TreePathScanner<Void, Void> {
        private int classes = 0;
        private int madeInCalls = 0;

        private MethodTree method() {
            for (TreePath p = getCurrentPath(); p != null; p = p.getParentPath()) {
                if (p.getLeaf() instanceof MethodTree m) {
                    return m;
                }
            }
            return null;
        }

        private Element element(Tree tree) {
            return trees.getElement(TreePath.getPath(unit, tree));
        }

        private TypeMirror type(Tree tree) {
            return trees.getTypeMirror(TreePath.getPath(unit, tree));
        }

        private long lineOf(long place) {
            return unit.getLineMap().getLineNumber(place);
        }

        @Override
        public Void visitClass(ClassTree tree, Void v) {
            classes++;
            Tree parent = getCurrentPath().getParentPath().getLeaf();
            boolean outermost = parent == unit;
            Set<Modifier> flags = tree.getModifiers().getFlags();
            rule(2, tree, "no local or anonymous class", outermost || parent instanceof ClassTree);
            rule(2, tree, "static inside", outermost || flags.contains(Modifier.STATIC));
            rule(1, tree, "the outer one public and final, no other public",
                outermost ? flags.contains(Modifier.PUBLIC) && flags.contains(Modifier.FINAL)
                    : !flags.contains(Modifier.PUBLIC) && !flags.contains(Modifier.PROTECTED));
            long fields = tree.getMembers().stream().filter(m -> m instanceof VariableTree f
                && !f.getModifiers().getFlags().contains(Modifier.STATIC)).count();
            rule(11, tree, fields + " fields", fields <= MOST_FIELDS);
            return super.visitClass(tree, v);
        }

        @Override
        public Void visitMethod(MethodTree tree, Void v) {
            Element self = element(tree);
            if (!tree.getName().contentEquals("<init>")) {
                calls.put(nameOf(self), new TreeSet<>());
                holdType(tree, ((ExecutableElement) self).getReturnType());
            }
            long first = lineOf(trees.getSourcePositions().getStartPosition(unit, tree));
            long last = lineOf(trees.getSourcePositions().getEndPosition(unit, tree));
            rule(11, tree, "lines of " + tree.getName(), last - first < MOST_LINES);
            rule(11, tree, "parameters of " + tree.getName(), tree.getParameters().size() <= MOST_PARAMETERS);
            rule(8, tree, "no native, abstract or overridden method", tree.getBody() != null);
            return super.visitMethod(tree, v);
        }

        @Override
        public Void visitVariable(VariableTree tree, Void v) {
            Element self = element(tree);
            holdType(tree, self.asType());
            if (self.getKind() == ElementKind.FIELD && self.getModifiers().contains(Modifier.STATIC)) {
                rule(5, tree, "a static field is a constant", self.getModifiers().contains(Modifier.FINAL)
                    && ((VariableElement) self).getConstantValue() != null);
            }
            return super.visitVariable(tree, v);
        }

        /** Rule 3: numbers, booleans, own classes, String; rows of them, and rows of rows of numbers. */
        private void holdType(Tree where, TypeMirror type) {
            boolean fine = type.getKind().isPrimitive() || type.toString().equals("void") || isOwn(type)
                || type.toString().equals("java.lang.String");
            if (type instanceof ArrayType row) {
                TypeMirror of = row.getComponentType();
                fine = of.getKind().isPrimitive() || isOwn(of)
                    || of instanceof ArrayType inner && inner.getComponentType().getKind().isPrimitive();
            }
            rule(3, where, "type " + type, fine);
        }

        private boolean isOwn(TypeMirror type) {
            return type.toString().startsWith("BargeTalks");
        }

        @Override
        public Void visitMethodInvocation(MethodInvocationTree tree, Void v) {
            Element called = element(tree);
            TypeElement owner = (TypeElement) called.getEnclosingElement();
            String name = called.getSimpleName().toString();
            if (isOwn(owner.asType())) {
                MethodTree from = method();
                if (from != null && !from.getName().contentEquals("<init>")) {
                    calls.get(nameOf(element(from))).add(nameOf(called));
                }
            } else {
                holdLibrary(tree, owner.getQualifiedName().toString(), name);
            }
            return super.visitMethodInvocation(tree, v);
        }

        private void holdLibrary(Tree where, String owner, String name) {
            // A constructor's own 'super()' is the compiler's, not ours.
            boolean listed = switch (owner) {
                case "java.lang.Object" -> name.equals("<init>");
                case "java.lang.String" -> OF_STRINGS.contains(name);
                case "java.lang.Math" -> Set.of("max", "min", "abs", "floorDiv", "floorMod").contains(name);
                case "java.lang.Integer" -> Set.of("compare", "max", "min", "bitCount").contains(name);
                default -> false;
            };
            rule(4, where, owner + "." + name, listed);
        }

        @Override
        public Void visitNewClass(NewClassTree tree, Void v) {
            rule(4, tree, "new " + tree.getIdentifier(), isOwn(type(tree)) && tree.getClassBody() == null);
            countIfInCall();
            return super.visitNewClass(tree, v);
        }

        @Override
        public Void visitNewArray(NewArrayTree tree, Void v) {
            countIfInCall();
            return super.visitNewArray(tree, v);
        }

        private void countIfInCall() {
            MethodTree in = method();
            if (in != null && !in.getName().contentEquals("<init>")) {
                madeInCalls++;
            }
        }

        @Override
        public Void visitTypeCast(TypeCastTree tree, Void v) {
            rule(6, tree, "a cast of numbers alone", type(tree.getType()).getKind().isPrimitive());
            return super.visitTypeCast(tree, v);
        }

        @Override
        public Void visitBinary(BinaryTree tree, Void v) {
            if (tree.getKind() == Tree.Kind.DIVIDE || tree.getKind() == Tree.Kind.REMAINDER) {
                holdDivisor(tree, tree.getRightOperand());
            }
            rule(10, tree, "no texts joined by +", type(tree).getKind().isPrimitive());
            rule(6, tree, "no texts held together by ==", tree.getKind() != Tree.Kind.EQUAL_TO
                || !type(tree.getLeftOperand()).toString().equals("java.lang.String"));
            return super.visitBinary(tree, v);
        }

        @Override
        public Void visitCompoundAssignment(CompoundAssignmentTree tree, Void v) {
            if (tree.getKind() == Tree.Kind.DIVIDE_ASSIGNMENT || tree.getKind() == Tree.Kind.REMAINDER_ASSIGNMENT) {
                holdDivisor(tree, tree.getExpression());
            }
            rule(10, tree, "no texts joined by +=", type(tree).getKind().isPrimitive());
            return super.visitCompoundAssignment(tree, v);
        }

        /** Rule 7: a divisor is a constant, or is held against 0 in the method in which it divides. */
        private void holdDivisor(Tree where, ExpressionTree divisor) {
            Element constant = element(divisor);
            boolean known = divisor.getKind() == Tree.Kind.INT_LITERAL && !divisor.toString().equals("0")
                || constant instanceof VariableElement c && c.getConstantValue() instanceof Integer n && n != 0;
            rule(7, where, "divisor " + divisor, known || isHeldAgainstZero(method(), divisor.toString()));
        }

        private boolean isHeldAgainstZero(MethodTree in, String divisor) {
            boolean[] found = {false};
            new TreeScanner<Void, Void>() {
                @Override
                public Void visitBinary(BinaryTree tree, Void v) {
                    boolean compares = List.of(Tree.Kind.GREATER_THAN, Tree.Kind.LESS_THAN_EQUAL, Tree.Kind.NOT_EQUAL_TO,
                        Tree.Kind.EQUAL_TO).contains(tree.getKind());
                    found[0] |= compares && tree.getLeftOperand().toString().equals(divisor)
                        && tree.getRightOperand().toString().equals("0");
                    return super.visitBinary(tree, v);
                }
            }.scan(in, null);
            return found[0];
        }

        @Override
        public Void visitForLoop(ForLoopTree tree, Void v) {
            rule(9, tree, "a counter against a bound", tree.getCondition() != null && isBounded(tree.getCondition())
                && tree.getUpdate().size() == 1);
            return super.visitForLoop(tree, v);
        }

        @Override
        public Void visitWhileLoop(WhileLoopTree tree, Void v) {
            rule(9, tree, "a counter against a bound", isBounded(tree.getCondition()));
            return super.visitWhileLoop(tree, v);
        }

        @Override
        public Void visitDoWhileLoop(DoWhileLoopTree tree, Void v) {
            rule(9, tree, "a counter against a bound", isBounded(tree.getCondition()));
            return super.visitDoWhileLoop(tree, v);
        }

        /** Of what is joined by &&, one part is a counter below its bound. */
        private boolean isBounded(Tree condition) {
            List<Tree> parts = new ArrayList<>(List.of(condition));
            boolean bounded = false;
            for (int i = 0; i < parts.size(); i++) {
                Tree part = parts.get(i);
                if (part instanceof com.sun.source.tree.ParenthesizedTree p) {
                    parts.add(p.getExpression());
                } else if (part instanceof BinaryTree b && b.getKind() == Tree.Kind.CONDITIONAL_AND) {
                    parts.add(b.getLeftOperand());
                    parts.add(b.getRightOperand());
                } else {
                    bounded |= part.getKind() == Tree.Kind.LESS_THAN || part.getKind() == Tree.Kind.LESS_THAN_EQUAL;
                }
            }
            return bounded;
        }

        @Override
        public Void visitLambdaExpression(LambdaExpressionTree tree, Void v) {
            rule(2, tree, "no lambda", false);
            return super.visitLambdaExpression(tree, v);
        }

        @Override
        public Void visitMemberReference(MemberReferenceTree tree, Void v) {
            rule(2, tree, "no method reference", false);
            return super.visitMemberReference(tree, v);
        }

        @Override
        public Void visitThrow(ThrowTree tree, Void v) {
            rule(6, tree, "no throw", false);
            return super.visitThrow(tree, v);
        }

        @Override
        public Void visitTry(TryTree tree, Void v) {
            rule(6, tree, "no try", false);
            return super.visitTry(tree, v);
        }

        @Override
        public Void visitCatch(CatchTree tree, Void v) {
            rule(6, tree, "no catch", false);
            return super.visitCatch(tree, v);
        }

        @Override
        public Void visitSynchronized(SynchronizedTree tree, Void v) {
            rule(6, tree, "no synchronized", false);
            return super.visitSynchronized(tree, v);
        }

        @Override
        public Void visitAssert(AssertTree tree, Void v) {
            rule(6, tree, "no assert", false);
            return super.visitAssert(tree, v);
        }
    }
}
