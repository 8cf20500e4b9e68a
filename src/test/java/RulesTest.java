import com.sun.source.tree.AssertTree;
import com.sun.source.tree.BlockTree;
import com.sun.source.tree.CatchTree;
import com.sun.source.tree.ClassTree;
import com.sun.source.tree.CompilationUnitTree;
import com.sun.source.tree.DoWhileLoopTree;
import com.sun.source.tree.ForLoopTree;
import com.sun.source.tree.LambdaExpressionTree;
import com.sun.source.tree.MemberReferenceTree;
import com.sun.source.tree.MethodInvocationTree;
import com.sun.source.tree.MethodTree;
import com.sun.source.tree.NewArrayTree;
import com.sun.source.tree.NewClassTree;
import com.sun.source.tree.SynchronizedTree;
import com.sun.source.tree.ThrowTree;
import com.sun.source.tree.Tree;
import com.sun.source.tree.TryTree;
import com.sun.source.tree.TypeCastTree;
import com.sun.source.tree.VariableTree;
import com.sun.source.tree.WhileLoopTree;
import com.sun.source.util.JavacTask;
import com.sun.source.util.TreePath;
import com.sun.source.util.TreePathScanner;
import com.sun.source.util.Trees;
import java.nio.file.Files;
import java.nio.file.Path;
import java.util.HashMap;
import java.util.HashSet;
import java.util.List;
import java.util.Map;
import java.util.Set;
import java.util.TreeSet;
import javax.lang.model.element.Element;
import javax.lang.model.element.ElementKind;
import javax.lang.model.element.Modifier;
import javax.lang.model.element.TypeElement;
import javax.tools.JavaCompiler;
import javax.tools.StandardJavaFileManager;
import javax.tools.ToolProvider;

/** The rules of LANGUAGE.md that the source shows, looked at in the tree that the compiler makes of it. */
public final class RulesTest {
    private static final Path SOURCE = Path.of("src/main/java/RidePools.java");
    private static final int MOST_LINES = 60;
    private static final int MOST_PARAMETERS = 7;
    private static final int MOST_CLASSES = 12;
    private static final int MOST_FIELDS = 20;
    private static final int DEEPEST = 8;

    /** Rule 4, so far as the class uses it. */
    private static final Set<String> LIBRARY = Set.of(
        "java.lang.Object.<init>", "java.lang.Integer.bitCount", "java.lang.Math.max", "java.lang.Math.min",
        "java.lang.System.arraycopy", "java.util.Arrays.fill");
    /** Rule 3, so far as the class uses it; own classes and arrays of them come to it. */
    private static final Set<String> TYPES = Set.of("int", "boolean", "int[]", "int[][]");

    private static int wrong = 0;

    private final CompilationUnitTree unit;
    private final Trees trees;
    private final Set<String> ownClasses = new HashSet<>();
    private final Map<String, Set<String>> calls = new HashMap<>();

    private RulesTest(CompilationUnitTree unit, Trees trees) {
        this.unit = unit;
        this.trees = trees;
    }

    public static void main(String[] args) throws Exception {
        Path source = args.length > 0 ? Path.of(args[0]) : SOURCE;
        JavaCompiler compiler = ToolProvider.getSystemJavaCompiler();
        try (StandardJavaFileManager files = compiler.getStandardFileManager(null, null, null)) {
            JavacTask task = (JavacTask) compiler.getTask(null, files, null, List.of("-proc:none"), null,
                files.getJavaFileObjects(source));
            CompilationUnitTree unit = task.parse().iterator().next();
            task.analyze();
            new RulesTest(unit, Trees.instance(task)).look();
        }
        check(4, "only plain signs", Files.readString(source).chars().allMatch(c -> c == '\n' || c >= 32 && c < 127));
        System.out.println("RulesTest: " + (wrong == 0 ? "as due" : wrong + " rules broken"));
        if (wrong != 0) System.exit(1);
    }

    private static void check(int rule, String what, boolean good) {
        if (!good) {
            wrong++;
            System.out.println("RulesTest: rule " + rule + ": " + what);
        }
    }

    private void look() {
        check(1, "no package", unit.getPackageName() == null);
        check(4, "only Arrays is imported", unit.getImports().size() == 1
            && unit.getImports().get(0).getQualifiedIdentifier().toString().equals("java.util.Arrays"));
        check(1, "one class in the file", unit.getTypeDecls().size() == 1);
        new Names().scan(unit, null);
        new Shapes().scan(unit, null);
        new Calls().scan(unit, null);
        for (String method : calls.keySet()) check(11, method + " calls more than " + DEEPEST + " deep", depth(method, new HashSet<>()) <= DEEPEST);
    }

    private long lineOf(long position) {
        return unit.getLineMap().getLineNumber(position);
    }

    private long lines(Tree tree) {
        return lineOf(trees.getSourcePositions().getEndPosition(unit, tree))
            - lineOf(trees.getSourcePositions().getStartPosition(unit, tree)) + 1;
    }

    /** How many calls stand open at most, the first one too; a method that calls itself is one. */
    private int depth(String method, Set<String> open) {
        if (!open.add(method)) return 0;
        int deepest = 0;
        for (String called : calls.getOrDefault(method, Set.of())) {
            if (!open.contains(called)) deepest = Math.max(deepest, depth(called, open));
        }
        open.remove(method);
        return deepest + 1;
    }

    /** The classes of the file, and the names of their methods. */
    private final class Names extends TreePathScanner<Void, Void> {
        private final Set<String> face = new TreeSet<>();

        @Override
        public Void visitClass(ClassTree tree, Void nothing) {
            boolean outer = getCurrentPath().getParentPath().getLeaf() == unit;
            ownClasses.add(tree.getSimpleName().toString());
            check(11, "more than " + MOST_CLASSES + " classes", ownClasses.size() <= MOST_CLASSES);
            check(2, tree.getSimpleName() + " is not static", outer || tree.getModifiers().getFlags().contains(Modifier.STATIC));
            check(2, tree.getSimpleName() + " stands in a method", outer || getCurrentPath().getParentPath().getLeaf() instanceof ClassTree);
            long fields = tree.getMembers().stream().filter(m -> m instanceof VariableTree v
                && !v.getModifiers().getFlags().contains(Modifier.STATIC)).count();
            check(11, tree.getSimpleName() + " has " + fields + " fields", fields <= MOST_FIELDS);
            if (outer) {
                for (Tree member : tree.getMembers()) {
                    if (member instanceof MethodTree method && isPublic(method)) face.add(method.getName().toString());
                }
            }
            return super.visitClass(tree, nothing);
        }

        private boolean isPublic(MethodTree method) {
            return method.getModifiers().getFlags().contains(Modifier.PUBLIC);
        }

        @Override
        public Void visitMethod(MethodTree tree, Void nothing) {
            String name = tree.getName().toString();
            boolean constructor = tree.getReturnType() == null;
            check(1, name + " bears a public method's name", constructor || isPublic(tree) || !face.contains(name));
            check(11, name + " has " + tree.getParameters().size() + " parameters", tree.getParameters().size() <= MOST_PARAMETERS);
            check(11, name + " has " + lines(tree) + " lines", lines(tree) <= MOST_LINES);
            return super.visitMethod(tree, nothing);
        }
    }

    /** What may stand in the file. */
    private final class Shapes extends TreePathScanner<Void, Void> {
        private void never(int rule, String what, Tree tree) {
            long line = lineOf(trees.getSourcePositions().getStartPosition(unit, tree));
            check(rule, what + " in line " + line, false);
        }

        @Override
        public Void visitVariable(VariableTree tree, Void nothing) {
            if (tree.getType() != null) {
                String type = tree.getType().toString();
                String element = type.endsWith("[]") ? type.substring(0, type.length() - 2) : type;
                check(3, "the type " + type, TYPES.contains(type) || ownClasses.contains(element));
            }
            Set<Modifier> flags = tree.getModifiers().getFlags();
            if (flags.contains(Modifier.STATIC) && (!flags.contains(Modifier.FINAL) || !tree.getType().toString().equals("int"))) {
                never(5, "a static field that is no constant", tree);
            }
            return super.visitVariable(tree, nothing);
        }

        @Override
        public Void visitBlock(BlockTree tree, Void nothing) {
            if (getCurrentPath().getParentPath().getLeaf() instanceof ClassTree) never(5, "a block of a class", tree);
            return super.visitBlock(tree, nothing);
        }

        /** Rule 9, and the room: no loop but for with a bound, and only constructors make objects. */
        @Override
        public Void visitForLoop(ForLoopTree tree, Void nothing) {
            if (tree.getCondition() == null || tree.getUpdate().size() != 1) never(9, "a loop without a bound", tree);
            return super.visitForLoop(tree, nothing);
        }

        @Override
        public Void visitWhileLoop(WhileLoopTree tree, Void nothing) {
            never(9, "while", tree);
            return super.visitWhileLoop(tree, nothing);
        }

        @Override
        public Void visitDoWhileLoop(DoWhileLoopTree tree, Void nothing) {
            never(9, "do", tree);
            return super.visitDoWhileLoop(tree, nothing);
        }

        private void madeHere(Tree tree) {
            for (TreePath path = getCurrentPath(); path != null; path = path.getParentPath()) {
                if (path.getLeaf() instanceof MethodTree method && method.getReturnType() != null) {
                    never(12, method.getName() + " makes an object", tree);
                }
            }
        }

        @Override
        public Void visitNewClass(NewClassTree tree, Void nothing) {
            if (tree.getClassBody() != null) never(2, "a class without a name", tree);
            check(4, "new " + tree.getIdentifier(), ownClasses.contains(tree.getIdentifier().toString()));
            madeHere(tree);
            return super.visitNewClass(tree, nothing);
        }

        @Override
        public Void visitNewArray(NewArrayTree tree, Void nothing) {
            madeHere(tree);
            return super.visitNewArray(tree, nothing);
        }

        @Override
        public Void visitLambdaExpression(LambdaExpressionTree tree, Void nothing) {
            never(2, "a lambda", tree);
            return super.visitLambdaExpression(tree, nothing);
        }

        @Override
        public Void visitMemberReference(MemberReferenceTree tree, Void nothing) {
            never(2, "a method reference", tree);
            return super.visitMemberReference(tree, nothing);
        }

        @Override
        public Void visitThrow(ThrowTree tree, Void nothing) {
            never(6, "throw", tree);
            return super.visitThrow(tree, nothing);
        }

        @Override
        public Void visitTry(TryTree tree, Void nothing) {
            never(6, "try", tree);
            return super.visitTry(tree, nothing);
        }

        @Override
        public Void visitCatch(CatchTree tree, Void nothing) {
            never(6, "catch", tree);
            return super.visitCatch(tree, nothing);
        }

        @Override
        public Void visitSynchronized(SynchronizedTree tree, Void nothing) {
            never(6, "synchronized", tree);
            return super.visitSynchronized(tree, nothing);
        }

        @Override
        public Void visitAssert(AssertTree tree, Void nothing) {
            never(6, "assert", tree);
            return super.visitAssert(tree, nothing);
        }

        @Override
        public Void visitTypeCast(TypeCastTree tree, Void nothing) {
            never(6, "a cast", tree);
            return super.visitTypeCast(tree, nothing);
        }
    }

    /** Who calls whom, and what of the library. */
    private final class Calls extends TreePathScanner<Void, Void> {
        private String caller = "";

        @Override
        public Void visitMethod(MethodTree tree, Void nothing) {
            caller = nameOf(trees.getElement(getCurrentPath()));
            calls.put(caller, new TreeSet<>());
            return super.visitMethod(tree, nothing);
        }

        @Override
        public Void visitMethodInvocation(MethodInvocationTree tree, Void nothing) {
            called(trees.getElement(getCurrentPath()));
            return super.visitMethodInvocation(tree, nothing);
        }

        @Override
        public Void visitNewClass(NewClassTree tree, Void nothing) {
            called(trees.getElement(getCurrentPath()));
            return super.visitNewClass(tree, nothing);
        }

        private void called(Element element) {
            String name = nameOf(element);
            TypeElement owner = (TypeElement) element.getEnclosingElement();
            boolean own = owner.getQualifiedName().toString().startsWith("RidePools");
            check(4, name + " is called", own || LIBRARY.contains(name));
            if (own && calls.containsKey(caller)) calls.get(caller).add(name);
        }

        private String nameOf(Element element) {
            boolean constructor = element.getKind() == ElementKind.CONSTRUCTOR;
            TypeElement owner = (TypeElement) element.getEnclosingElement();
            return owner.getQualifiedName() + "." + (constructor ? "<init>" : element.getSimpleName());
        }
    }
}
