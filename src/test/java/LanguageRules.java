import com.sun.source.tree.AnnotationTree;
import com.sun.source.tree.AssertTree;
import com.sun.source.tree.BlockTree;
import com.sun.source.tree.ClassTree;
import com.sun.source.tree.CompilationUnitTree;
import com.sun.source.tree.DoWhileLoopTree;
import com.sun.source.tree.EnhancedForLoopTree;
import com.sun.source.tree.ForLoopTree;
import com.sun.source.tree.LambdaExpressionTree;
import com.sun.source.tree.MemberReferenceTree;
import com.sun.source.tree.MethodInvocationTree;
import com.sun.source.tree.MethodTree;
import com.sun.source.tree.NewArrayTree;
import com.sun.source.tree.NewClassTree;
import com.sun.source.tree.SynchronizedTree;
import com.sun.source.tree.ThrowTree;
import com.sun.source.tree.Tree;
import com.sun.source.tree.TryTree;
import com.sun.source.tree.TypeCastTree;
import com.sun.source.tree.VariableTree;
import com.sun.source.tree.WhileLoopTree;
import com.sun.source.util.JavacTask;
import com.sun.source.util.TreePath;
import com.sun.source.util.TreePathScanner;
import com.sun.source.util.Trees;
import java.io.IOException;
import java.nio.file.Path;
import java.util.ArrayList;
import java.util.List;
import java.util.Map;
import java.util.Set;
import java.util.TreeMap;
import java.util.TreeSet;
import javax.lang.model.element.Element;
import javax.lang.model.element.Modifier;
import javax.tools.JavaCompiler;
import javax.tools.StandardJavaFileManager;
import javax.tools.ToolProvider;

/**
 * What LANGUAGE.md says of the form of the class, read from the tree that the compiler makes of it. Rules 7 and 9
 * (tests before use, ends of loops) are not seen here. A path given as an argument is looked at instead of the class.
 */
public final class LanguageRules {
    private static final int MOST_PARAMETERS = 7, MOST_LINES = 60, MOST_DEPTH = 8, MOST_CLASSES = 12, MOST_FIELDS = 20;
    /** Those of rule 4 that could be needed here; one that is missing is to be looked up there first. */
    private static final Set<String> LIBRARY = Set.of("java.util.Arrays.fill", "java.util.Arrays.copyOf",
            "java.util.Arrays.copyOfRange", "java.lang.System.arraycopy", "java.lang.Integer.bitCount",
            "java.lang.Integer.compare", "java.lang.Math.abs", "java.lang.Math.max", "java.lang.Math.min",
            "java.lang.Math.floorMod", "java.lang.Math.floorDiv");
    private static final Set<String> NUMBERS = Set.of("int", "long", "short", "byte", "char", "double", "float");

    private static final Set<String> ownClasses = new TreeSet<>();
    /** What each own method or constructor calls, the library's methods too. */
    private static final Map<String, Set<String>> calls = new TreeMap<>();
    private static int wrong = 0;

    private static void broken(int rule, String what) {
        wrong++;
        System.out.println("rule " + rule + ": " + what);
    }

    public static void main(String[] args) throws IOException {
        Path source = Path.of(args.length > 0 ? args[0] : "src/main/java/TurntableHouse.java");
        JavaCompiler compiler = ToolProvider.getSystemJavaCompiler();
        try (StandardJavaFileManager files = compiler.getStandardFileManager(null, null, null)) {
            JavacTask task = (JavacTask) compiler.getTask(null, files, null, List.of("--release", "17"), null,
                    files.getJavaFileObjects(source));
            Iterable<? extends CompilationUnitTree> units = task.parse();
            task.analyze();
            Trees trees = Trees.instance(task);
            for (CompilationUnitTree unit : units) {
                new Names().scan(unit, null);
                new Rules(trees, unit).scan(unit, null);
            }
        }
        if (ownClasses.size() > MOST_CLASSES) {
            broken(11, ownClasses.size() + " classes");
        }
        List<String> deepest = deepestCalls();
        if (deepest.size() > MOST_DEPTH) {
            broken(11, "calls go " + deepest.size() + " deep: " + deepest);
        }
        System.out.println(ownClasses.size() + " classes, " + calls.size() + " methods, calls go " + deepest.size()
                + " deep, " + wrong + " wrong");
        if (wrong != 0 || calls.isEmpty()) {
            System.exit(1);
        }
    }

    /** The longest chain of calls; the class has no recursion, so that there is one. */
    private static List<String> deepestCalls() {
        List<String> deepest = List.of();
        Map<String, List<String>> known = new TreeMap<>();
        for (String method : calls.keySet()) {
            List<String> chain = chainFrom(method, new ArrayList<>(), known);
            if (chain.size() > deepest.size()) {
                deepest = chain;
            }
        }
        return deepest;
    }

    private static List<String> chainFrom(String method, List<String> open, Map<String, List<String>> known) {
        if (known.containsKey(method)) {
            return known.get(method);
        }
        if (open.contains(method)) {
            broken(8, method + " calls itself by way of " + open);
            return List.of();
        }
        open.add(method);
        List<String> longest = List.of();
        for (String called : calls.getOrDefault(method, Set.of())) {
            List<String> chain = chainFrom(called, open, known);
            longest = chain.size() > longest.size() ? chain : longest;
        }
        open.remove(open.size() - 1);
        List<String> chain = new ArrayList<>(List.of(method));
        chain.addAll(longest);
        known.put(method, chain);
        return chain;
    }

    /** The names of the classes, which have to be known before types are looked at. */
    private static final class Names extends TreePathScanner<Void, Void> {
        @Override
        public Void visitClass(ClassTree tree, Void nothing) {
            ownClasses.add(tree.getSimpleName().toString());
            return super.visitClass(tree, nothing);
        }
    }

    private static final class Rules extends TreePathScanner<Void, Void> {
        private final Trees trees;
        private final CompilationUnitTree unit;
        private String method = "";
        private int loops = 0;

        Rules(Trees trees, CompilationUnitTree unit) {
            this.trees = trees;
            this.unit = unit;
        }

        private long lineOf(long offset) {
            return unit.getLineMap().getLineNumber(offset);
        }

        private String where(Tree tree) {
            return "line " + lineOf(trees.getSourcePositions().getStartPosition(unit, tree)) + ": ";
        }

        private static String nameOf(Element called) {
            return called.getEnclosingElement() + "." + called;
        }

        private void noteCall(Element called, Tree tree) {
            String owner = called.getEnclosingElement().getSimpleName().toString();
            String library = called.getEnclosingElement() + "." + called.getSimpleName();
            if (!ownClasses.contains(owner) && !LIBRARY.contains(library)) {
                // each constructor calls that of Object; the source does not show it
                if (!library.equals("java.lang.Object.<init>")) {
                    broken(4, where(tree) + library);
                }
                return;
            }
            if (!method.isEmpty()) {
                calls.get(method).add(nameOf(called));
            }
        }

        @Override
        public Void visitClass(ClassTree tree, Void nothing) {
            Tree outside = getCurrentPath().getParentPath().getLeaf();
            boolean top = outside instanceof CompilationUnitTree;
            if (!top && !(outside instanceof ClassTree)) {
                broken(2, where(tree) + "a local or anonymous class");
            }
            if (!top && !tree.getModifiers().getFlags().contains(Modifier.STATIC)) {
                broken(2, where(tree) + tree.getSimpleName() + " is not static");
            }
            int fields = 0;
            for (Tree member : tree.getMembers()) {
                if (member instanceof VariableTree) {
                    Set<Modifier> flags = ((VariableTree) member).getModifiers().getFlags();
                    fields += flags.contains(Modifier.STATIC) ? 0 : 1;
                    if (flags.contains(Modifier.STATIC) && !flags.contains(Modifier.FINAL)) {
                        broken(5, where(member) + "static and not final");
                    }
                } else if (member instanceof BlockTree) {
                    broken(5, where(member) + "an initialiser block");
                }
            }
            if (fields > MOST_FIELDS) {
                broken(11, where(tree) + fields + " fields");
            }
            return super.visitClass(tree, nothing);
        }

        @Override
        public Void visitMethod(MethodTree tree, Void nothing) {
            String outside = method;
            method = nameOf(trees.getElement(getCurrentPath()));
            calls.putIfAbsent(method, new TreeSet<>());
            if (tree.getParameters().size() > MOST_PARAMETERS) {
                broken(11, where(tree) + tree.getParameters().size() + " parameters");
            }
            long first = lineOf(trees.getSourcePositions().getStartPosition(unit, tree));
            long last = lineOf(Math.max(0, trees.getSourcePositions().getEndPosition(unit, tree)));
            if (last - first + 1 > MOST_LINES) {
                broken(11, where(tree) + tree.getName() + " has " + (last - first + 1) + " lines");
            }
            super.visitMethod(tree, nothing);
            method = outside;
            return null;
        }

        @Override
        public Void visitVariable(VariableTree tree, Void nothing) {
            TreePath type = new TreePath(getCurrentPath(), tree.getType());
            String name = trees.getTypeMirror(type).toString();
            String plain = name.replace("[]", "");
            int dimensions = (name.length() - plain.length()) / 2;
            String simple = plain.substring(plain.lastIndexOf('.') + 1);
            boolean fine = NUMBERS.contains(plain) ? dimensions <= 2
                    : (plain.equals("boolean") || ownClasses.contains(simple)) && dimensions <= 1;
            if (!fine) {
                broken(3, where(tree) + name);
            }
            return super.visitVariable(tree, nothing);
        }

        @Override
        public Void visitMethodInvocation(MethodInvocationTree tree, Void nothing) {
            noteCall(trees.getElement(getCurrentPath()), tree);
            return super.visitMethodInvocation(tree, nothing);
        }

        @Override
        public Void visitNewClass(NewClassTree tree, Void nothing) {
            noteCall(trees.getElement(getCurrentPath()), tree);
            noteObject(tree);
            return super.visitNewClass(tree, nothing);
        }

        @Override
        public Void visitNewArray(NewArrayTree tree, Void nothing) {
            noteObject(tree);
            return super.visitNewArray(tree, nothing);
        }

        /** Rule 12 allows bounded ones; this class needs none, which keeps what a run makes easy to count. */
        private void noteObject(Tree tree) {
            if (loops > 0) {
                broken(12, where(tree) + "an object is made in a loop");
            }
        }

        @Override
        public Void visitForLoop(ForLoopTree tree, Void nothing) {
            if (tree.getCondition() == null) {
                broken(9, where(tree) + "a loop without a condition");
            }
            loops++;
            super.visitForLoop(tree, nothing);
            loops--;
            return null;
        }

        @Override
        public Void visitEnhancedForLoop(EnhancedForLoopTree tree, Void nothing) {
            loops++;
            super.visitEnhancedForLoop(tree, nothing);
            loops--;
            return null;
        }

        @Override
        public Void visitWhileLoop(WhileLoopTree tree, Void nothing) {
            loops++;
            super.visitWhileLoop(tree, nothing);
            loops--;
            return null;
        }

        @Override
        public Void visitDoWhileLoop(DoWhileLoopTree tree, Void nothing) {
            loops++;
            super.visitDoWhileLoop(tree, nothing);
            loops--;
            return null;
        }

        @Override
        public Void visitLambdaExpression(LambdaExpressionTree tree, Void nothing) {
            broken(2, where(tree) + "a lambda");
            return super.visitLambdaExpression(tree, nothing);
        }

        @Override
        public Void visitMemberReference(MemberReferenceTree tree, Void nothing) {
            broken(2, where(tree) + "a method reference");
            return super.visitMemberReference(tree, nothing);
        }

        @Override
        public Void visitAnnotation(AnnotationTree tree, Void nothing) {
            broken(4, where(tree) + "an annotation");
            return super.visitAnnotation(tree, nothing);
        }

        @Override
        public Void visitThrow(ThrowTree tree, Void nothing) {
            broken(6, where(tree) + "throw");
            return super.visitThrow(tree, nothing);
        }

        @Override
        public Void visitTry(TryTree tree, Void nothing) {
            broken(6, where(tree) + "try");
            return super.visitTry(tree, nothing);
        }

        @Override
        public Void visitSynchronized(SynchronizedTree tree, Void nothing) {
            broken(6, where(tree) + "synchronized");
            return super.visitSynchronized(tree, nothing);
        }

        @Override
        public Void visitAssert(AssertTree tree, Void nothing) {
            broken(6, where(tree) + "assert");
            return super.visitAssert(tree, nothing);
        }

        /** A cast is fine behind its test; this class has none, so one that comes is to be looked at. */
        @Override
        public Void visitTypeCast(TypeCastTree tree, Void nothing) {
            broken(6, where(tree) + "a cast");
            return super.visitTypeCast(tree, nothing);
        }
    }
}
