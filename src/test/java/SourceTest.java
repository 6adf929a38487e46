import com.sun.source.tree.AssignmentTree;
import com.sun.source.tree.BinaryTree;
import com.sun.source.tree.ClassTree;
import com.sun.source.tree.CompilationUnitTree;
import com.sun.source.tree.CompoundAssignmentTree;
import com.sun.source.tree.MethodInvocationTree;
import com.sun.source.tree.MethodTree;
import com.sun.source.tree.NewArrayTree;
import com.sun.source.tree.NewClassTree;
import com.sun.source.tree.ThrowTree;
import com.sun.source.tree.Tree;
import com.sun.source.tree.TryTree;
import com.sun.source.tree.TypeCastTree;
import com.sun.source.tree.VariableTree;
import com.sun.source.util.JavacTask;
import com.sun.source.util.TreePathScanner;
import com.sun.source.util.Trees;
import java.io.IOException;
import java.nio.file.Path;
import java.util.ArrayList;
import java.util.Arrays;
import java.util.List;
import java.util.Map;
import java.util.TreeMap;
import java.util.TreeSet;
import javax.lang.model.element.Element;
import javax.lang.model.type.TypeKind;
import javax.tools.JavaCompiler;
import javax.tools.StandardJavaFileManager;
import javax.tools.ToolProvider;

/** Rules of LANGUAGE.md that need the source as javac understands it: who calls whom, what is made where, types. */
public final class SourceTest {
    private static final Check CHECK = new Check("SourceTest");

    private static final TreeSet<String> TYPES = new TreeSet<>(Arrays.asList("int", "long", "short", "byte", "char",
        "boolean", "String", "int[]", "long[]", "byte[]", "char[]", "boolean[]", "int[][]", "long[][]"));
    private static final TreeSet<String> LIBRARY = new TreeSet<>(Arrays.asList("Math.max", "Math.min", "Math.abs",
        "Integer.bitCount", "String.length", "String.charAt", "System.arraycopy"));
    /** Methods that may come back to themselves, each by a depth that a limit of the document keeps low. */
    private static final TreeSet<String> RECURSIVE = new TreeSet<>(Arrays.asList("Search.visit", "Search.visitBelow",
        "Partings.place", "Partings.placeAnywhere", "Partings.placeInEach"));

    private static final Map<String, TreeSet<String>> CALLS = new TreeMap<>();
    private static final TreeSet<String> OWN_TYPES = new TreeSet<>();

    public static void main(String[] args) throws IOException {
        JavaCompiler compiler = ToolProvider.getSystemJavaCompiler();
        try (StandardJavaFileManager files = compiler.getStandardFileManager(null, null, null)) {
            JavacTask task = (JavacTask) compiler.getTask(null, files, null, null, null,
                files.getJavaFileObjects(Path.of("src/main/java/NumberHeaps.java")));
            List<CompilationUnitTree> units = new ArrayList<>();
            task.parse().forEach(units::add);
            task.analyze();
            CHECK.due("one file", units.size(), 1);
            ownTypes(units.get(0));
            new Rules(Trees.instance(task)).scan(units.get(0), null);
        }
        depth();
        recursion();
        CHECK.end();
    }

    private static void ownTypes(CompilationUnitTree unit) {
        for (Tree type : unit.getTypeDecls()) {
            for (Tree member : ((ClassTree) type).getMembers()) {
                if (member instanceof ClassTree) {
                    OWN_TYPES.add(((ClassTree) member).getSimpleName().toString());
                }
            }
        }
        CHECK.due("rule 11 classes of the file", OWN_TYPES.size() + 1 <= 12, true);
    }

    /** Rule 11: no chain of calls, each method in it once, has more than eight. */
    private static void depth() {
        for (String method : CALLS.keySet()) {
            List<String> chain = longest(method, new TreeSet<>());
            CHECK.due("rule 11 " + chain + " goes at most eight deep", chain.size() <= 8, true);
        }
        CHECK.due("methods seen", CALLS.size() > 100, true);
    }

    private static List<String> longest(String method, TreeSet<String> open) {
        List<String> best = new ArrayList<>();
        open.add(method);
        for (String called : CALLS.getOrDefault(method, new TreeSet<>())) {
            if (!open.contains(called)) {
                List<String> below = longest(called, open);
                best = below.size() > best.size() ? below : best;
            }
        }
        open.remove(method);
        best.add(0, method);
        return best;
    }

    /** Rule 8: what comes back to itself is known, and nothing else does. */
    private static void recursion() {
        TreeSet<String> found = new TreeSet<>();
        for (String method : CALLS.keySet()) {
            TreeSet<String> reached = new TreeSet<>();
            reach(method, reached);
            if (reached.contains(method)) {
                found.add(method);
            }
        }
        CHECK.same("rule 8", String.join("\n", found), String.join("\n", RECURSIVE));
    }

    private static void reach(String method, TreeSet<String> reached) {
        for (String called : CALLS.getOrDefault(method, new TreeSet<>())) {
            if (reached.add(called)) {
                reach(called, reached);
            }
        }
    }

    /** Goes through the tree of the source. */
    private static final class Rules extends TreePathScanner<Void, Void> {
        private final Trees trees;
        private String method = "";
        private boolean making = true;

        Rules(Trees trees) {
            this.trees = trees;
        }

        @Override
        public Void visitMethod(MethodTree tree, Void nothing) {
            Element element = trees.getElement(getCurrentPath());
            making = tree.getReturnType() == null;
            method = nameOf(element);
            CALLS.putIfAbsent(method, new TreeSet<>());
            super.visitMethod(tree, nothing);
            method = "";
            making = true;
            return null;
        }

        @Override
        public Void visitMethodInvocation(MethodInvocationTree tree, Void nothing) {
            Element called = trees.getElement(getCurrentPath());
            String name = nameOf(called);
            String type = called.getEnclosingElement().getSimpleName().toString();
            // every constructor begins with the one above it
            boolean above = name.equals("Object.<init>");
            boolean own = OWN_TYPES.contains(type) || type.equals("NumberHeaps");
            CHECK.due("rule 4 " + name, own || above || LIBRARY.contains(name), true);
            if (!above) {
                CALLS.get(method).add(name);
            }
            return super.visitMethodInvocation(tree, nothing);
        }

        @Override
        public Void visitNewClass(NewClassTree tree, Void nothing) {
            String type = tree.getIdentifier().toString();
            boolean thrown = getCurrentPath().getParentPath().getLeaf() instanceof ThrowTree;
            CHECK.due("rule 12 " + method + " makes a " + type, making || thrown, true);
            CHECK.due("rule 2 " + type, OWN_TYPES.contains(type) || thrown, true);
            return super.visitNewClass(tree, nothing);
        }

        @Override
        public Void visitNewArray(NewArrayTree tree, Void nothing) {
            CHECK.due("rule 12 " + method + " makes an array", making, true);
            return super.visitNewArray(tree, nothing);
        }

        @Override
        public Void visitThrow(ThrowTree tree, Void nothing) {
            CHECK.due("rule 6 thrown in " + method, method.equals("NumberHeaps.octet"), true);
            CHECK.due("rule 6 " + tree, tree.toString().startsWith("throw new NoSuchElementException()"), true);
            return super.visitThrow(tree, nothing);
        }

        @Override
        public Void visitTry(TryTree tree, Void nothing) {
            CHECK.due("rule 6 try in " + method, true, false);
            return super.visitTry(tree, nothing);
        }

        @Override
        public Void visitTypeCast(TypeCastTree tree, Void nothing) {
            CHECK.due("rule 6 cast in " + method, TYPES.contains(tree.getType().toString()), true);
            return super.visitTypeCast(tree, nothing);
        }

        @Override
        public Void visitVariable(VariableTree tree, Void nothing) {
            String type = tree.getType().toString();
            boolean own = OWN_TYPES.contains(type.replace("[]", "")) && !type.endsWith("[][]");
            CHECK.due("rule 3 type " + type + " of " + tree.getName(), own || TYPES.contains(type), true);
            return super.visitVariable(tree, nothing);
        }

        /** Rule 10 tells && and || of truths, masks of numbers, and texts joined by no +. */
        @Override
        public Void visitBinary(BinaryTree tree, Void nothing) {
            boolean mask = tree.getKind() == Tree.Kind.AND || tree.getKind() == Tree.Kind.OR
                || tree.getKind() == Tree.Kind.XOR;
            TypeKind kind = trees.getTypeMirror(getCurrentPath()).getKind();
            CHECK.due("rule 10 " + tree, mask && kind == TypeKind.BOOLEAN, false);
            CHECK.due("rule 10 text " + tree, kind == TypeKind.DECLARED, false);
            return super.visitBinary(tree, nothing);
        }

        @Override
        public Void visitCompoundAssignment(CompoundAssignmentTree tree, Void nothing) {
            TypeKind kind = trees.getTypeMirror(getCurrentPath()).getKind();
            CHECK.due("rule 10 " + tree, kind == TypeKind.BOOLEAN || kind == TypeKind.DECLARED, false);
            return super.visitCompoundAssignment(tree, nothing);
        }

        /** A value that is set where another is asked for is easily read wrongly. */
        @Override
        public Void visitAssignment(AssignmentTree tree, Void nothing) {
            Tree around = getCurrentPath().getParentPath().getLeaf();
            CHECK.due(tree + " stands alone", around.getKind() == Tree.Kind.EXPRESSION_STATEMENT, true);
            return super.visitAssignment(tree, nothing);
        }

        private static String nameOf(Element method) {
            return method.getEnclosingElement().getSimpleName() + "." + method.getSimpleName();
        }
    }
}
