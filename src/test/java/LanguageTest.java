import com.sun.source.tree.ArrayAccessTree;
import com.sun.source.tree.AssertTree;
import com.sun.source.tree.BinaryTree;
import com.sun.source.tree.BlockTree;
import com.sun.source.tree.CatchTree;
import com.sun.source.tree.ClassTree;
import com.sun.source.tree.CompilationUnitTree;
import com.sun.source.tree.CompoundAssignmentTree;
import com.sun.source.tree.ExpressionTree;
import com.sun.source.tree.ImportTree;
import com.sun.source.tree.InstanceOfTree;
import com.sun.source.tree.LambdaExpressionTree;
import com.sun.source.tree.LiteralTree;
import com.sun.source.tree.MemberReferenceTree;
import com.sun.source.tree.MethodInvocationTree;
import com.sun.source.tree.MethodTree;
import com.sun.source.tree.NewArrayTree;
import com.sun.source.tree.NewClassTree;
import com.sun.source.tree.SynchronizedTree;
import com.sun.source.tree.ThrowTree;
import com.sun.source.tree.Tree;
import com.sun.source.tree.TryTree;
import com.sun.source.tree.TypeCastTree;
import com.sun.source.tree.VariableTree;
import com.sun.source.util.JavacTask;
import com.sun.source.util.TreePath;
import com.sun.source.util.TreePathScanner;
import com.sun.source.util.Trees;
import java.nio.file.Path;
import java.util.ArrayList;
import java.util.HashMap;
import java.util.HashSet;
import java.util.LinkedHashSet;
import java.util.List;
import java.util.Map;
import java.util.Set;
import javax.lang.model.element.Element;
import javax.lang.model.element.ElementKind;
import javax.lang.model.element.ExecutableElement;
import javax.lang.model.element.Modifier;
import javax.lang.model.element.NestingKind;
import javax.lang.model.element.TypeElement;
import javax.lang.model.type.ArrayType;
import javax.lang.model.type.DeclaredType;
import javax.lang.model.type.TypeKind;
import javax.lang.model.type.TypeMirror;
import javax.tools.JavaCompiler;
import javax.tools.StandardJavaFileManager;
import javax.tools.ToolProvider;

/** What can be counted or looked up of the rules of LANGUAGE.md, and the ways of this class to keep to rule 7. */
public final class LanguageTest {
    private static final Path SOURCE = Path.of("src", "main", "java", "SpellScribe.java");
    private static final int MOST_CLASSES = 12, MOST_FIELDS = 20, MOST_LINES = 60, MOST_PARAMETERS = 7, MOST_DEPTH = 8;
    private static final Set<String> IMPORTS = Set.of("java.util.ArrayList", "java.util.List");
    private static final Set<String> TYPES = Set.of("java.lang.String", "java.lang.StringBuilder", "java.lang.Integer",
        "java.util.ArrayList", "java.util.List");
    private static final Set<String> CALLS = Set.of("java.lang.String.length", "java.lang.String.charAt",
        "java.lang.String.isEmpty", "java.lang.String.equals", "java.lang.String.substring",
        "java.lang.String.toCharArray", "java.util.List.add", "java.util.List.get", "java.util.List.set",
        "java.util.List.remove", "java.util.List.size", "java.util.List.isEmpty", "java.util.List.clear",
        "java.util.ArrayList.<init>", "java.lang.Math.abs", "java.lang.Math.min", "java.lang.Math.max",
        "java.lang.System.arraycopy", "java.lang.Object.<init>");
    private static final Set<String> EXCEPTIONS = Set.of("IllegalStateException", "IllegalArgumentException",
        "IndexOutOfBoundsException", "ArithmeticException", "UnsupportedOperationException",
        "NoSuchElementException", "RuntimeException");
    // The one class whose methods use an index of an array, each behind a test of it.
    private static final String ARRAYS = "Row";

    private static int wrong;

    public static void main(String[] args) throws Exception {
        JavaCompiler compiler = ToolProvider.getSystemJavaCompiler();
        try (StandardJavaFileManager files = compiler.getStandardFileManager(null, null, null)) {
            List<String> options = List.of("-proc:none", "-Xlint:all");
            JavacTask task = (JavacTask) compiler.getTask(null, files, null, options, null, files.getJavaFileObjects(SOURCE));
            CompilationUnitTree unit = task.parse().iterator().next();
            task.analyze();
            Look look = new Look(Trees.instance(task), unit);
            look.scan(unit, null);
            look.checkWhole();
            System.out.println("LanguageTest: " + look.calls.size() + " methods, "
                + (wrong == 0 ? "all rules looked at are kept" : wrong + " faults"));
        }
        if (wrong != 0) {
            System.exit(1);
        }
    }

    private static final class Look extends TreePathScanner<Void, Void> {
        private final Trees trees;
        private final CompilationUnitTree unit;
        private final Map<String, Set<String>> calls = new HashMap<>();
        private final Set<String> publicMethods = new HashSet<>();
        private final List<String> privateMethods = new ArrayList<>();
        private int classes;

        Look(Trees trees, CompilationUnitTree unit) {
            this.trees = trees;
            this.unit = unit;
        }

        private void need(boolean holds, int rule, Tree tree, String what) {
            if (!holds) {
                wrong++;
                System.out.println("line " + line(trees.getSourcePositions().getStartPosition(unit, tree)) + ", rule " + rule + ": " + what);
            }
        }

        private long line(long position) {
            return unit.getLineMap().getLineNumber(position);
        }

        private Element element() {
            return trees.getElement(getCurrentPath());
        }

        private TypeMirror typeOf(Tree tree) {
            return trees.getTypeMirror(new TreePath(getCurrentPath(), tree));
        }

        private <T extends Tree> T around(Class<T> kind) {
            for (TreePath path = getCurrentPath(); path != null; path = path.getParentPath()) {
                if (kind.isInstance(path.getLeaf())) {
                    return kind.cast(path.getLeaf());
                }
            }
            return null;
        }

        private static String nameOf(ExecutableElement method) {
            return ((TypeElement) method.getEnclosingElement()).getQualifiedName() + "." + method.getSimpleName();
        }

        /** Tells methods of one name apart. */
        private static String keyOf(ExecutableElement method) {
            return nameOf(method) + method.getParameters().stream().map(p -> p.asType().toString()).toList();
        }

        private static boolean isOwn(ExecutableElement method) {
            return nameOf(method).startsWith("SpellScribe.");
        }

        @Override
        public Void visitCompilationUnit(CompilationUnitTree tree, Void nothing) {
            need(tree.getPackage() == null, 1, tree, "a package line");
            need(tree.getTypeDecls().size() == 1, 1, tree, "more than one class at the top");
            return super.visitCompilationUnit(tree, nothing);
        }

        @Override
        public Void visitImport(ImportTree tree, Void nothing) {
            need(!tree.isStatic() && IMPORTS.contains(tree.getQualifiedIdentifier().toString()), 4, tree, "an import that is not listed");
            return null;
        }

        @Override
        public Void visitClass(ClassTree tree, Void nothing) {
            TypeElement found = (TypeElement) element();
            need(found.getNestingKind() != NestingKind.LOCAL, 2, tree, "a class inside a method");
            long fields = tree.getMembers().stream().filter(m -> m instanceof VariableTree v
                && !v.getModifiers().getFlags().contains(Modifier.STATIC)).count();
            need(fields <= MOST_FIELDS, 11, tree, "a class with " + fields + " fields");
            need(tree.getMembers().stream().noneMatch(m -> m instanceof BlockTree), 5, tree, "a block of initialising");
            classes++;
            return super.visitClass(tree, nothing);
        }

        @Override
        public Void visitMethod(MethodTree tree, Void nothing) {
            ExecutableElement method = (ExecutableElement) element();
            calls.put(keyOf(method), new LinkedHashSet<>());
            String name = method.getSimpleName().toString();
            if (method.getModifiers().contains(Modifier.PUBLIC)) {
                publicMethods.add(name);
            } else if (method.getModifiers().contains(Modifier.PRIVATE) && tree.getReturnType() != null) {
                privateMethods.add(name);
            }
            need(tree.getParameters().size() <= MOST_PARAMETERS, 11, tree, "a method with too many parameters");
            need(!Set.of("equals", "hashCode", "toString").contains(name), 6, tree, "a method called " + name);
            need(!method.getModifiers().contains(Modifier.SYNCHRONIZED), 6, tree, "a synchronized method");
            long start = line(trees.getSourcePositions().getStartPosition(unit, tree));
            long end = line(trees.getSourcePositions().getEndPosition(unit, tree));
            need(end - start < MOST_LINES, 11, tree, "a method of more than " + MOST_LINES + " lines");
            if (tree.getReturnType() != null) {
                checkType(trees.getTypeMirror(new TreePath(getCurrentPath(), tree.getReturnType())), tree);
            }
            return super.visitMethod(tree, nothing);
        }

        @Override
        public Void visitVariable(VariableTree tree, Void nothing) {
            Element variable = element();
            checkType(variable.asType(), tree);
            if (variable.getKind() == ElementKind.FIELD && variable.getModifiers().contains(Modifier.STATIC)) {
                String type = variable.asType().toString();
                need(variable.getModifiers().contains(Modifier.FINAL), 5, tree, "a static field that is not final");
                need(Set.of("int", "long", "boolean", "char", "java.lang.String", "int[]", "long[]", "char[]", "byte[]")
                    .contains(type), 5, tree, "a static field of type " + type);
            }
            return super.visitVariable(tree, nothing);
        }

        private void checkType(TypeMirror type, Tree tree) {
            TypeMirror inside = type;
            int dimensions = 0;
            while (inside.getKind() == TypeKind.ARRAY) {
                inside = ((ArrayType) inside).getComponentType();
                dimensions++;
            }
            need(dimensions <= (inside.getKind().isPrimitive() ? 2 : 1), 3, tree, "an array of too many dimensions");
            if (inside.getKind() == TypeKind.DECLARED) {
                String name = ((TypeElement) ((DeclaredType) inside).asElement()).getQualifiedName().toString();
                need(name.startsWith("SpellScribe") || TYPES.contains(name), 3, tree, "the type " + name);
                ((DeclaredType) inside).getTypeArguments().forEach(argument -> checkType(argument, tree));
            }
        }

        private void addCall(ExecutableElement called, Tree tree) {
            need(isOwn(called) || CALLS.contains(nameOf(called)), 4, tree, "a call of " + nameOf(called));
            MethodTree caller = around(MethodTree.class);
            if (caller != null) {
                TreePath path = trees.getPath(unit, caller);
                calls.get(keyOf((ExecutableElement) trees.getElement(path))).add(keyOf(called));
            }
        }

        @Override
        public Void visitMethodInvocation(MethodInvocationTree tree, Void nothing) {
            addCall((ExecutableElement) element(), tree);
            return super.visitMethodInvocation(tree, nothing);
        }

        @Override
        public Void visitNewClass(NewClassTree tree, Void nothing) {
            boolean isThrown = getCurrentPath().getParentPath().getLeaf() instanceof ThrowTree;
            if (!isThrown) {
                addCall((ExecutableElement) element(), tree);
            }
            return super.visitNewClass(tree, nothing);
        }

        @Override
        public Void visitThrow(ThrowTree tree, Void nothing) {
            ExpressionTree thrown = tree.getExpression();
            need(thrown instanceof NewClassTree made && EXCEPTIONS.contains(made.getIdentifier().toString())
                && made.getClassBody() == null && made.getArguments().size() <= 1
                && made.getArguments().stream().allMatch(text -> text instanceof LiteralTree), 6, tree, "a throw in another form");
            MethodTree method = around(MethodTree.class);
            need(method != null && !method.getName().contentEquals("<init>"), 6, tree, "a throw in a constructor");
            return super.visitThrow(tree, nothing);
        }

        @Override
        public Void visitTry(TryTree tree, Void nothing) {
            need(tree.getFinallyBlock() == null && tree.getResources().isEmpty(), 6, tree, "a try with finally or resources");
            return super.visitTry(tree, nothing);
        }

        @Override
        public Void visitCatch(CatchTree tree, Void nothing) {
            need(false, 6, tree, "a catch: look at it by hand, and tell this test of it");
            return super.visitCatch(tree, nothing);
        }

        @Override
        public Void visitLambdaExpression(LambdaExpressionTree tree, Void nothing) {
            need(false, 2, tree, "a lambda");
            return super.visitLambdaExpression(tree, nothing);
        }

        @Override
        public Void visitMemberReference(MemberReferenceTree tree, Void nothing) {
            need(false, 2, tree, "a method reference");
            return super.visitMemberReference(tree, nothing);
        }

        @Override
        public Void visitSynchronized(SynchronizedTree tree, Void nothing) {
            need(false, 6, tree, "synchronized");
            return super.visitSynchronized(tree, nothing);
        }

        @Override
        public Void visitAssert(AssertTree tree, Void nothing) {
            need(false, 6, tree, "an assert");
            return super.visitAssert(tree, nothing);
        }

        @Override
        public Void visitInstanceOf(InstanceOfTree tree, Void nothing) {
            need(false, 6, tree, "an instanceof: look at it by hand, and tell this test of it");
            return super.visitInstanceOf(tree, nothing);
        }

        @Override
        public Void visitTypeCast(TypeCastTree tree, Void nothing) {
            need(typeOf(tree.getType()).getKind().isPrimitive(), 7, tree, "a cast to a class");
            return super.visitTypeCast(tree, nothing);
        }

        @Override
        public Void visitArrayAccess(ArrayAccessTree tree, Void nothing) {
            need(around(ClassTree.class).getSimpleName().contentEquals(ARRAYS), 7, tree, "an index outside of " + ARRAYS);
            return super.visitArrayAccess(tree, nothing);
        }

        @Override
        public Void visitNewArray(NewArrayTree tree, Void nothing) {
            need(around(ClassTree.class).getSimpleName().contentEquals(ARRAYS), 7, tree, "an array made outside of " + ARRAYS);
            return super.visitNewArray(tree, nothing);
        }

        @Override
        public Void visitBinary(BinaryTree tree, Void nothing) {
            String left = String.valueOf(typeOf(tree.getLeftOperand()));
            String right = String.valueOf(typeOf(tree.getRightOperand()));
            boolean isOfTexts = left.equals("java.lang.String") || right.equals("java.lang.String");
            need(!isOfTexts, 10, tree, "texts joined by +, or compared by ==");
            if (tree.getKind() == Tree.Kind.DIVIDE || tree.getKind() == Tree.Kind.REMAINDER) {
                checkDivisor(tree.getRightOperand());
            }
            return super.visitBinary(tree, nothing);
        }

        @Override
        public Void visitCompoundAssignment(CompoundAssignmentTree tree, Void nothing) {
            if (tree.getKind() == Tree.Kind.DIVIDE_ASSIGNMENT || tree.getKind() == Tree.Kind.REMAINDER_ASSIGNMENT) {
                checkDivisor(tree.getExpression());
            }
            return super.visitCompoundAssignment(tree, nothing);
        }

        /** A written number, or a constant, which is not seen to be 0 here. */
        private void checkDivisor(ExpressionTree divisor) {
            Element named = trees.getElement(new TreePath(getCurrentPath(), divisor));
            boolean isConstant = divisor instanceof LiteralTree literal && !literal.getValue().equals(0)
                || named != null && named.getKind() == ElementKind.FIELD && named.getModifiers().contains(Modifier.STATIC);
            need(isConstant, 7, divisor, "a divisor that is no constant");
        }

        @Override
        public Void visitLiteral(LiteralTree tree, Void nothing) {
            if (tree.getValue() instanceof String text) {
                need(text.chars().allMatch(sign -> sign >= 1 && sign <= 127), 4, tree, "a sign that is not of 1 to 127");
            }
            return super.visitLiteral(tree, nothing);
        }

        void checkWhole() {
            need(classes <= MOST_CLASSES, 11, unit, classes + " classes");
            for (String name : privateMethods) {
                need(!publicMethods.contains(name), 1, unit, "a private method with the public name " + name);
            }
            for (String method : calls.keySet()) {
                List<String> chain = longestChain(method, new ArrayList<>());
                need(chain.size() <= MOST_DEPTH, 11, unit, "calls that go deeper than " + MOST_DEPTH + ": " + chain);
            }
        }

        /** Calls of the library count, too; what a constructor calls is left out. */
        private List<String> longestChain(String method, List<String> open) {
            List<String> longest = new ArrayList<>();
            need(!open.contains(method), 8, unit, "a recursion: look at it by hand, and tell this test of it: " + method);
            if (!open.contains(method) && !method.contains("<init>")) {
                open.add(method);
                for (String called : calls.getOrDefault(method, Set.of())) {
                    List<String> chain = longestChain(called, open);
                    longest = chain.size() > longest.size() ? chain : longest;
                }
                open.remove(method);
                longest.add(0, method);
            }
            return longest;
        }
    }
}
