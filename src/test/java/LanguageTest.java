import com.sun.source.tree.AssertTree;
import com.sun.source.tree.BinaryTree;
import com.sun.source.tree.BlockTree;
import com.sun.source.tree.ClassTree;
import com.sun.source.tree.CompilationUnitTree;
import com.sun.source.tree.CompoundAssignmentTree;
import com.sun.source.tree.LambdaExpressionTree;
import com.sun.source.tree.MemberReferenceTree;
import com.sun.source.tree.MethodInvocationTree;
import com.sun.source.tree.MethodTree;
import com.sun.source.tree.NewArrayTree;
import com.sun.source.tree.NewClassTree;
import com.sun.source.tree.SynchronizedTree;
import com.sun.source.tree.ThrowTree;
import com.sun.source.tree.Tree;
import com.sun.source.tree.TryTree;
import com.sun.source.tree.TypeCastTree;
import com.sun.source.tree.VariableTree;
import com.sun.source.util.JavacTask;
import com.sun.source.util.TreePath;
import com.sun.source.util.TreePathScanner;
import com.sun.source.util.Trees;
import java.io.IOException;
import java.nio.file.Path;
import java.util.HashMap;
import java.util.HashSet;
import java.util.List;
import java.util.Map;
import java.util.Set;
import javax.lang.model.element.Element;
import javax.lang.model.element.ElementKind;
import javax.lang.model.element.ExecutableElement;
import javax.lang.model.element.Modifier;
import javax.lang.model.element.VariableElement;
import javax.lang.model.type.ArrayType;
import javax.lang.model.type.TypeKind;
import javax.lang.model.type.TypeMirror;
import javax.tools.JavaCompiler;
import javax.tools.StandardJavaFileManager;
import javax.tools.ToolProvider;

/** The rules of LANGUAGE.md that a compiler's view of the source can tell: 2 to 6, 8, and 10 to 13. */
public final class LanguageTest {
    private static final Path SOURCE = Path.of("src/main/java/WellOfTheSilent.java");
    private static final int MOST_PARAMETERS = 7;
    private static final int MOST_LINES = 60;
    private static final int DEEPEST = 8;
    private static final int MOST_CLASSES = 12;
    private static final int MOST_FIELDS = 20;
    private static final Set<String> TYPES = Set.of("int", "long", "boolean", "char", "void", "java.lang.String");
    private static final Set<String> ROWS = Set.of("int", "long", "char", "byte");
    // Of what rule 4 allows, what the class has need of.
    private static final Set<String> LIBRARY = Set.of("java.lang.String.length", "java.lang.String.charAt",
        "java.lang.String.isEmpty", "java.lang.String.indexOf", "java.lang.Integer.bitCount",
        "java.lang.Math.min", "java.lang.Math.max", "java.lang.Object.<init>");
    private static final Check check = new Check();

    public static void main(String[] args) throws IOException {
        JavaCompiler compiler = ToolProvider.getSystemJavaCompiler();
        try (StandardJavaFileManager files = compiler.getStandardFileManager(null, null, null)) {
            List<String> options = List.of("--release", "17", "-Xlint:all", "-Werror");
            JavacTask task = (JavacTask) compiler.getTask(null, files, null, options, null, files.getJavaFileObjects(SOURCE));
            CompilationUnitTree unit = task.parse().iterator().next();
            task.analyze();
            check.holds("rule 4: nothing is imported", unit.getImports().isEmpty());
            check.holds("no package line", unit.getPackage() == null);
            check.due("one class at the top of the file", unit.getTypeDecls().size(), 1);
            Reader reader = new Reader(unit, Trees.instance(task));
            reader.scan(unit, null);
            reader.lookAtWhole();
        }
        check.end();
    }

    private static final class Reader extends TreePathScanner<Void, Void> {
        private final CompilationUnitTree unit;
        private final Trees trees;
        private final Map<ExecutableElement, Set<ExecutableElement>> calls = new HashMap<>();
        private final Set<String> methodNames = new HashSet<>();
        private int classes = 0;

        Reader(CompilationUnitTree unit, Trees trees) {
            this.unit = unit;
            this.trees = trees;
        }

        void lookAtWhole() {
            check.holds("rule 11: at most some twelve classes", classes <= MOST_CLASSES);
            check.holds("the methods are read", methodNames.size() > 39);
            for (ExecutableElement method : calls.keySet()) {
                if (method.getModifiers().contains(Modifier.PUBLIC)) {
                    int depth = depthOf(method, Set.of());
                    check.holds("rule 11: " + method + " goes " + depth + " deep, at most eight", depth <= DEEPEST);
                }
            }
        }

        // Calls of the library are a level of their own, and have none below.
        private int depthOf(ExecutableElement method, Set<ExecutableElement> open) {
            check.holds("rule 8: " + method + " does not come back to itself", !open.contains(method));
            if (open.contains(method)) {
                return DEEPEST + 1;
            }
            Set<ExecutableElement> more = new HashSet<>(open);
            more.add(method);
            int deepest = 0;
            for (ExecutableElement called : calls.getOrDefault(method, Set.of())) {
                deepest = Math.max(deepest, depthOf(called, more));
            }
            return deepest + 1;
        }

        @Override
        public Void visitClass(ClassTree tree, Void nothing) {
            classes++;
            boolean isTop = getCurrentPath().getParentPath().getLeaf() == unit;
            Tree.Kind around = getCurrentPath().getParentPath().getLeaf().getKind();
            check.holds(at(tree, "rule 2: no local or anonymous class"), isTop || around == Tree.Kind.CLASS);
            check.holds(at(tree, "rule 2: a class inside is static"),
                isTop || tree.getModifiers().getFlags().contains(Modifier.STATIC));
            long fields = tree.getMembers().stream()
                .filter(m -> m instanceof VariableTree v && !v.getModifiers().getFlags().contains(Modifier.STATIC)).count();
            check.holds(at(tree, "rule 11: some twenty fields, there are " + fields), fields <= MOST_FIELDS);
            for (Tree member : tree.getMembers()) {
                check.holds(at(member, "rule 5: no block of its own in a class"), !(member instanceof BlockTree));
            }
            return super.visitClass(tree, nothing);
        }

        @Override
        public Void visitMethod(MethodTree tree, Void nothing) {
            ExecutableElement method = (ExecutableElement) trees.getElement(getCurrentPath());
            calls.computeIfAbsent(method, m -> new HashSet<>());
            methodNames.add(method.toString());
            check.holds(at(tree, "rule 11: at most seven parameters"), tree.getParameters().size() <= MOST_PARAMETERS);
            long lines = lineOf(trees.getSourcePositions().getEndPosition(unit, tree))
                - lineOf(trees.getSourcePositions().getStartPosition(unit, tree)) + 1;
            check.holds(at(tree, "rule 11: some sixty lines, there are " + lines), lines <= MOST_LINES);
            if (method.getKind() == ElementKind.METHOD) {
                check.holds(at(tree, "rule 3: " + method.getReturnType()), isAllowed(method.getReturnType()));
            }
            return super.visitMethod(tree, nothing);
        }

        @Override
        public Void visitVariable(VariableTree tree, Void nothing) {
            VariableElement variable = (VariableElement) trees.getElement(getCurrentPath());
            check.holds(at(tree, "rule 3: " + variable.asType()), isAllowed(variable.asType()));
            if (variable.getModifiers().contains(Modifier.STATIC)) {
                boolean isConstant = variable.getModifiers().contains(Modifier.FINAL) && variable.getConstantValue() != null;
                check.holds(at(tree, "rule 5: a static field is a constant"), isConstant);
            }
            return super.visitVariable(tree, nothing);
        }

        private boolean isAllowed(TypeMirror type) {
            if (type.getKind() == TypeKind.ARRAY) {
                return ROWS.contains(((ArrayType) type).getComponentType().toString());
            }
            return TYPES.contains(type.toString()) || type.toString().startsWith("WellOfTheSilent");
        }

        @Override
        public Void visitMethodInvocation(MethodInvocationTree tree, Void nothing) {
            called(tree);
            return super.visitMethodInvocation(tree, nothing);
        }

        @Override
        public Void visitNewClass(NewClassTree tree, Void nothing) {
            called(tree);
            made(tree);
            return super.visitNewClass(tree, nothing);
        }

        @Override
        public Void visitNewArray(NewArrayTree tree, Void nothing) {
            made(tree);
            return super.visitNewArray(tree, nothing);
        }

        private void called(Tree tree) {
            ExecutableElement target = (ExecutableElement) trees.getElement(getCurrentPath());
            String owner = target.getEnclosingElement().toString();
            String name = owner + "." + target.getSimpleName();
            boolean isOwn = owner.startsWith("WellOfTheSilent");
            check.holds(at(tree, "rule 4: " + name), isOwn || LIBRARY.contains(name));
            ExecutableElement around = methodAround(getCurrentPath());
            if (around != null) {
                calls.computeIfAbsent(around, m -> new HashSet<>()).add(target);
            }
        }

        // One room for all calls of a run: the class makes its rows with the object, and none in a call.
        private void made(Tree tree) {
            ExecutableElement around = methodAround(getCurrentPath());
            check.holds(at(tree, "rule 12: no call makes an object"),
                around == null || around.getKind() == ElementKind.CONSTRUCTOR);
        }

        private ExecutableElement methodAround(TreePath path) {
            for (TreePath each = path; each != null; each = each.getParentPath()) {
                if (each.getLeaf() instanceof MethodTree) {
                    Element element = trees.getElement(each);
                    return (ExecutableElement) element;
                }
            }
            return null;
        }

        @Override
        public Void visitBinary(BinaryTree tree, Void nothing) {
            boolean ofTexts = !isNumber(getCurrentPath(), tree.getLeftOperand()) || !isNumber(getCurrentPath(), tree.getRightOperand());
            Set<Tree.Kind> barred = Set.of(Tree.Kind.PLUS, Tree.Kind.EQUAL_TO, Tree.Kind.NOT_EQUAL_TO);
            check.holds(at(tree, "rules 6 and 10: no " + tree.getKind() + " of texts or objects"),
                !ofTexts || !barred.contains(tree.getKind()));
            return super.visitBinary(tree, nothing);
        }

        private boolean isNumber(TreePath path, Tree operand) {
            return trees.getTypeMirror(new TreePath(path, operand)).getKind().isPrimitive();
        }

        @Override
        public Void visitCompoundAssignment(CompoundAssignmentTree tree, Void nothing) {
            check.holds(at(tree, "rule 10: no joining of texts"), isNumber(getCurrentPath(), tree.getVariable()));
            return super.visitCompoundAssignment(tree, nothing);
        }

        @Override
        public Void visitTypeCast(TypeCastTree tree, Void nothing) {
            check.holds(at(tree, "rule 7: a cast of numbers alone, which can't fail"), isNumber(getCurrentPath(), tree.getExpression()));
            return super.visitTypeCast(tree, nothing);
        }

        @Override
        public Void visitLambdaExpression(LambdaExpressionTree tree, Void nothing) {
            return barred(tree, "rule 2: no lambda");
        }

        @Override
        public Void visitMemberReference(MemberReferenceTree tree, Void nothing) {
            return barred(tree, "rule 2: no method reference");
        }

        @Override
        public Void visitThrow(ThrowTree tree, Void nothing) {
            return barred(tree, "rule 6: no throw");
        }

        @Override
        public Void visitTry(TryTree tree, Void nothing) {
            return barred(tree, "rule 6: no try");
        }

        @Override
        public Void visitSynchronized(SynchronizedTree tree, Void nothing) {
            return barred(tree, "rule 6: no synchronized");
        }

        @Override
        public Void visitAssert(AssertTree tree, Void nothing) {
            return barred(tree, "rule 6: no assert");
        }

        private Void barred(Tree tree, String rule) {
            check.holds(at(tree, rule), false);
            return null;
        }

        private long lineOf(long position) {
            return unit.getLineMap().getLineNumber(Math.max(0, position));
        }

        private String at(Tree tree, String rule) {
            return "line " + lineOf(trees.getSourcePositions().getStartPosition(unit, tree)) + ": " + rule;
        }
    }
}
