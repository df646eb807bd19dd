import com.sun.source.tree.AssertTree;
import com.sun.source.tree.BinaryTree;
import com.sun.source.tree.BlockTree;
import com.sun.source.tree.ClassTree;
import com.sun.source.tree.CompilationUnitTree;
import com.sun.source.tree.CompoundAssignmentTree;
import com.sun.source.tree.DoWhileLoopTree;
import com.sun.source.tree.EnhancedForLoopTree;
import com.sun.source.tree.ExpressionTree;
import com.sun.source.tree.ForLoopTree;
import com.sun.source.tree.LambdaExpressionTree;
import com.sun.source.tree.MemberReferenceTree;
import com.sun.source.tree.MethodInvocationTree;
import com.sun.source.tree.MethodTree;
import com.sun.source.tree.NewArrayTree;
import com.sun.source.tree.NewClassTree;
import com.sun.source.tree.SynchronizedTree;
import com.sun.source.tree.ThrowTree;
import com.sun.source.tree.Tree;
import com.sun.source.tree.TryTree;
import com.sun.source.tree.TypeCastTree;
import com.sun.source.tree.VariableTree;
import com.sun.source.tree.WhileLoopTree;
import com.sun.source.util.JavacTask;
import com.sun.source.util.TreePath;
import com.sun.source.util.TreePathScanner;
import com.sun.source.util.Trees;
import java.io.IOException;
import java.nio.file.Path;
import java.util.HashMap;
import java.util.HashSet;
import java.util.List;
import java.util.Map;
import java.util.Set;
import javax.lang.model.element.Element;
import javax.lang.model.element.ExecutableElement;
import javax.lang.model.element.Modifier;
import javax.lang.model.element.TypeElement;
import javax.lang.model.type.TypeMirror;
import javax.tools.JavaCompiler;
import javax.tools.StandardJavaFileManager;
import javax.tools.ToolProvider;

/** The rules of LANGUAGE.md once more, looked at in the tree that javac makes of the source; run from the project's root. */
public final class SourceTest {
    private static final Path SOURCE = Path.of("src/main/java/SlipperDuke.java");
    private static final int MOST_DEEP = 8, MOST_LINES = 60, MOST_PARAMETERS = 7, MOST_CLASSES = 12, MOST_FIELDS = 20;
    /** The part of rule 4's library that the class uses. */
    private static final Set<String> LIBRARY = Set.of("java.util.Arrays.fill", "java.lang.System.arraycopy", "java.lang.Math.min",
        "java.lang.Math.max", "java.lang.Math.abs", "java.lang.Integer.bitCount", "java.lang.Long.bitCount");
    private static final Set<String> CONSTANTS = Set.of("int", "long", "boolean", "char", "java.lang.String", "int[]", "long[]", "char[]", "byte[]");
    private static final Set<String> NUMBERS = Set.of("int", "long", "short", "byte", "char");
    private static int wrong = 0;

    private static void due(String rule, boolean holds) {
        if (!holds) {
            wrong++;
            System.out.println("LANGUAGE.md, rule " + rule);
        }
    }

    /** Goes through the whole file; what methods call is kept by their full names. */
    private static final class Rules extends TreePathScanner<Void, Void> {
        private final Trees trees;
        private final CompilationUnitTree file;
        private final Map<String, Set<String>> calls = new HashMap<>();
        private String method = "";
        private String body = "";
        private boolean isMaking = true;
        private int classes = 0;

        Rules(Trees trees, CompilationUnitTree file) {
            this.trees = trees;
            this.file = file;
        }

        private long line(Tree tree) {
            return file.getLineMap().getLineNumber(trees.getSourcePositions().getStartPosition(file, tree));
        }

        private long lastLine(Tree tree) {
            return file.getLineMap().getLineNumber(trees.getSourcePositions().getEndPosition(file, tree));
        }

        private String at(Tree tree) {
            return "line " + line(tree) + ": " + tree.toString().lines().findFirst().orElse("");
        }

        private void none(String rule, Tree tree) {
            due(rule + ", " + at(tree), false);
        }

        private String name(Element element) {
            String owner = ((TypeElement) element.getEnclosingElement()).getQualifiedName().toString();
            return owner + "." + element.getSimpleName();
        }

        private TypeMirror type(Tree tree) {
            return trees.getTypeMirror(new TreePath(getCurrentPath(), tree));
        }

        @Override
        public Void visitClass(ClassTree tree, Void none) {
            classes++;
            due("11 (some twelve classes), " + at(tree), classes <= MOST_CLASSES);
            boolean isInside = getCurrentPath().getParentPath().getLeaf() instanceof ClassTree;
            due("2 (static and inside the one class), " + at(tree), isInside ? tree.getModifiers().getFlags().contains(Modifier.STATIC) : classes == 1);
            int fields = 0;
            for (Tree member : tree.getMembers()) {
                if (member instanceof VariableTree field) {
                    boolean isStatic = field.getModifiers().getFlags().contains(Modifier.STATIC);
                    fields += isStatic ? 0 : 1;
                    due("5 (static fields are constants), " + at(member), !isStatic || isConstant(field));
                }
                due("5 (no initialiser block), " + at(member), !(member instanceof BlockTree));
            }
            due("11 (some twenty fields), " + at(tree), fields <= MOST_FIELDS);
            return super.visitClass(tree, none);
        }

        private boolean isConstant(VariableTree field) {
            return field.getModifiers().getFlags().contains(Modifier.FINAL) && CONSTANTS.contains(type(field).toString());
        }

        @Override
        public Void visitMethod(MethodTree tree, Void none) {
            due("11 (at most seven parameters), " + at(tree), tree.getParameters().size() <= MOST_PARAMETERS);
            due("11 (some sixty lines), " + at(tree), lastLine(tree) - line(tree) < MOST_LINES);
            method = name(trees.getElement(getCurrentPath()));
            body = String.valueOf(tree.getBody());
            isMaking = tree.getReturnType() == null;
            calls.putIfAbsent(method, new HashSet<>());
            super.visitMethod(tree, none);
            isMaking = true;
            return null;
        }

        @Override
        public Void visitMethodInvocation(MethodInvocationTree tree, Void none) {
            Element called = trees.getElement(new TreePath(getCurrentPath(), tree.getMethodSelect()));
            if (called instanceof ExecutableElement && !called.getSimpleName().contentEquals("<init>")) {
                String name = name(called);
                boolean isOwn = name.startsWith("SlipperDuke.");
                due("4 (the library), " + at(tree), isOwn || LIBRARY.contains(name));
                if (isOwn) calls.get(method).add(name);
            }
            return super.visitMethodInvocation(tree, none);
        }

        @Override
        public Void visitNewClass(NewClassTree tree, Void none) {
            due("2 (no anonymous class), " + at(tree), tree.getClassBody() == null);
            due("12 (README: the constructor alone makes objects), " + at(tree), isMaking);
            return super.visitNewClass(tree, none);
        }

        @Override
        public Void visitNewArray(NewArrayTree tree, Void none) {
            due("12 (README: the constructor alone makes objects), " + at(tree), isMaking);
            for (ExpressionTree length : tree.getDimensions()) due("7 (a length that is a constant), " + at(tree), isSafeDivisor(length));
            return super.visitNewArray(tree, none);
        }

        /** A number above 0 that is written out or a constant, or a name that the method looks at. */
        private boolean isSafeDivisor(ExpressionTree divisor) {
            String name = divisor.toString();
            if (divisor.getKind() == Tree.Kind.INT_LITERAL || divisor.getKind() == Tree.Kind.LONG_LITERAL) return !name.equals("0");
            return name.matches("[A-Z_]+") || name.matches("\\w+") && body.contains(name + " > 0");
        }

        @Override
        public Void visitBinary(BinaryTree tree, Void none) {
            boolean divides = tree.getKind() == Tree.Kind.DIVIDE || tree.getKind() == Tree.Kind.REMAINDER;
            due("7 (a divisor is looked at), " + at(tree), !divides || isSafeDivisor(tree.getRightOperand()));
            due("10 (no joining by +), " + at(tree), tree.getKind() != Tree.Kind.PLUS || NUMBERS.contains(type(tree.getLeftOperand()).toString()));
            return super.visitBinary(tree, none);
        }

        @Override
        public Void visitCompoundAssignment(CompoundAssignmentTree tree, Void none) {
            boolean divides = tree.getKind() == Tree.Kind.DIVIDE_ASSIGNMENT || tree.getKind() == Tree.Kind.REMAINDER_ASSIGNMENT;
            due("7 (a divisor is looked at), " + at(tree), !divides || isSafeDivisor(tree.getExpression()));
            return super.visitCompoundAssignment(tree, none);
        }

        @Override
        public Void visitTypeCast(TypeCastTree tree, Void none) {
            due("6 (casts of numbers alone), " + at(tree), NUMBERS.contains(type(tree.getType()).toString()));
            return super.visitTypeCast(tree, none);
        }

        @Override
        public Void visitForLoop(ForLoopTree tree, Void none) {
            due("9 (a loop's end), " + at(tree), tree.getCondition() != null && !tree.getUpdate().isEmpty());
            return super.visitForLoop(tree, none);
        }

        @Override
        public Void visitWhileLoop(WhileLoopTree tree, Void none) {
            due("9 (a loop's end), " + at(tree), tree.getCondition().toString().matches("\\(\\w+ < .*"));
            return super.visitWhileLoop(tree, none);
        }

        @Override
        public Void visitDoWhileLoop(DoWhileLoopTree tree, Void none) {
            due("9 (a loop's end), " + at(tree), tree.getCondition().toString().matches("\\(\\w+ < .*"));
            return super.visitDoWhileLoop(tree, none);
        }

        @Override
        public Void visitEnhancedForLoop(EnhancedForLoopTree tree, Void none) {
            due("10 (for over an array), " + at(tree), type(tree.getExpression()).toString().endsWith("[]"));
            return super.visitEnhancedForLoop(tree, none);
        }

        @Override
        public Void visitLambdaExpression(LambdaExpressionTree tree, Void none) {
            none("2 (no lambda)", tree);
            return null;
        }

        @Override
        public Void visitMemberReference(MemberReferenceTree tree, Void none) {
            none("2 (no method reference)", tree);
            return null;
        }

        @Override
        public Void visitThrow(ThrowTree tree, Void none) {
            none("6 (no throw)", tree);
            return null;
        }

        @Override
        public Void visitTry(TryTree tree, Void none) {
            none("6 (no try)", tree);
            return null;
        }

        @Override
        public Void visitSynchronized(SynchronizedTree tree, Void none) {
            none("6 (no synchronized)", tree);
            return null;
        }

        @Override
        public Void visitAssert(AssertTree tree, Void none) {
            none("6 (no assert)", tree);
            return null;
        }

        /** How many methods stand open at once, this one with them; the class needs no recursion. */
        private int deep(String name, Set<String> open) {
            if (!open.add(name)) {
                due("8 (no recursion), " + name, false);
                return 0;
            }
            int deepest = 0;
            for (String next : calls.getOrDefault(name, Set.of())) deepest = Math.max(deepest, deep(next, open));
            open.remove(name);
            return deepest + 1;
        }

        void depths() {
            due("1: methods were found", calls.size() > 38);
            for (String name : calls.keySet()) due("11 (at most eight deep), " + name, deep(name, new HashSet<>()) <= MOST_DEEP);
        }
    }

    public static void main(String[] args) throws IOException {
        JavaCompiler javac = ToolProvider.getSystemJavaCompiler();
        try (StandardJavaFileManager files = javac.getStandardFileManager(null, null, null)) {
            JavacTask task = (JavacTask) javac.getTask(null, files, null, List.of("-proc:none"), null, files.getJavaFileObjects(SOURCE));
            CompilationUnitTree file = task.parse().iterator().next();
            task.analyze();
            Rules rules = new Rules(Trees.instance(task), file);
            rules.scan(file, null);
            rules.depths();
        }
        System.out.println(wrong == 0 ? "the source keeps to the rules" : wrong + " places do not keep to the rules");
        if (wrong != 0) System.exit(1);
    }
}
