import com.sun.source.tree.CompilationUnitTree;
import com.sun.source.tree.IdentifierTree;
import com.sun.source.tree.LambdaExpressionTree;
import com.sun.source.tree.MemberReferenceTree;
import com.sun.source.tree.MemberSelectTree;
import com.sun.source.tree.MethodInvocationTree;
import com.sun.source.tree.MethodTree;
import com.sun.source.tree.NewArrayTree;
import com.sun.source.tree.NewClassTree;
import com.sun.source.tree.ThrowTree;
import com.sun.source.tree.Tree;
import com.sun.source.tree.TryTree;
import com.sun.source.util.JavacTask;
import com.sun.source.util.SourcePositions;
import com.sun.source.util.TreePathScanner;
import com.sun.source.util.Trees;
import java.io.IOException;
import java.nio.file.Path;
import java.util.HashSet;
import java.util.List;
import java.util.Map;
import java.util.Set;
import java.util.TreeMap;
import java.util.TreeSet;
import javax.lang.model.element.Element;
import javax.lang.model.element.ElementKind;
import javax.lang.model.element.ExecutableElement;
import javax.tools.JavaCompiler;
import javax.tools.StandardJavaFileManager;
import javax.tools.ToolProvider;

/** What of LANGUAGE.md the compiler sees: who calls whom and how deep, the library, what is made and thrown. */
final class SourceTest {
    private static final Set<String> LIBRARY = Set.of(
        "Integer.bitCount", "Integer.lowestOneBit", "Math.min", "Math.max", "Math.abs", "Arrays.fill",
        "System.arraycopy", "String.length", "String.charAt", "Object.<init>", "NoSuchElementException.<init>",
        "IllegalArgumentException.<init>");
    private static final Set<String> LEVEL_OF_AN_EXPR = Set.of(
        "Reader.readExpr", "Reader.readAnd", "Reader.readNot", "Reader.readTest", "Reader.readSum",
        "Reader.readProduct", "Reader.readPart");
    private static final int DEEPEST_CALLS = 8;
    private static final int MOST_LINES = 60;

    private SourceTest() {
    }

    public static void main(String[] args) throws IOException {
        JavaCompiler compiler = ToolProvider.getSystemJavaCompiler();
        try (StandardJavaFileManager files = compiler.getStandardFileManager(null, null, null)) {
            JavacTask task = (JavacTask) compiler.getTask(null, files, null, List.of("-proc:none"), null,
                files.getJavaFileObjects(Path.of("src/main/java/SnowCanton.java")));
            CompilationUnitTree unit = task.parse().iterator().next();
            task.analyze();
            Calls calls = new Calls(Trees.instance(task), unit);
            calls.scan(unit, null);
            calls.check();
        }
        Check.end("SourceTest");
    }

    /** Goes through the source once and keeps who calls whom. */
    private static final class Calls extends TreePathScanner<Void, Void> {
        private final Trees trees;
        private final SourcePositions places;
        private final CompilationUnitTree unit;
        private final Map<String, Set<String>> calls = new TreeMap<>();
        private final Set<String> faces = new TreeSet<>();
        private final Map<String, Integer> depths = new TreeMap<>();
        private String method = "";

        Calls(Trees trees, CompilationUnitTree unit) {
            this.trees = trees;
            this.places = trees.getSourcePositions();
            this.unit = unit;
        }

        private static String name(Element e) {
            return e.getEnclosingElement().getSimpleName() + "." + e.getSimpleName();
        }

        private Element element() {
            return trees.getElement(getCurrentPath());
        }

        private long line(Tree tree, boolean atEnd) {
            long at = atEnd ? places.getEndPosition(unit, tree) : places.getStartPosition(unit, tree);
            return unit.getLineMap().getLineNumber(at);
        }

        @Override
        public Void visitMethod(MethodTree tree, Void v) {
            String outer = method;
            ExecutableElement self = (ExecutableElement) element();
            method = name(self);
            Check.holds(method + " has a name of its own among its class's", calls.put(method, new TreeSet<>()) == null);
            Check.holds(method + " is short", line(tree, true) - line(tree, false) < MOST_LINES);
            Check.holds(method + " has at most seven parameters", self.getParameters().size() <= 7);
            if (method.startsWith("SnowCanton.") && self.getModifiers().contains(javax.lang.model.element.Modifier.PUBLIC)) {
                faces.add(method);
            }
            super.visitMethod(tree, v);
            method = outer;
            return null;
        }

        @Override
        public Void visitMethodInvocation(MethodInvocationTree tree, Void v) {
            Element called = trees.getElement(new com.sun.source.util.TreePath(getCurrentPath(), tree.getMethodSelect()));
            String name = name(called);
            boolean isLibrary = called.getEnclosingElement().toString().startsWith("java.");
            Check.holds("the program may call " + name, !isLibrary || LIBRARY.contains(name));
            calls.get(method).add(name);
            return super.visitMethodInvocation(tree, v);
        }

        @Override
        public Void visitNewClass(NewClassTree tree, Void v) {
            Element made = element();
            boolean isLibrary = made.getEnclosingElement().toString().startsWith("java.");
            boolean isThrown = getCurrentPath().getParentPath().getLeaf() instanceof ThrowTree;
            Check.holds("the program may make " + name(made), !isLibrary || LIBRARY.contains(name(made)));
            Check.holds(method + " makes nothing", isThrown || isMadeWithItsOwner());
            Check.holds("no class without a name", tree.getClassBody() == null);
            return super.visitNewClass(tree, v);
        }

        @Override
        public Void visitNewArray(NewArrayTree tree, Void v) {
            Check.holds(method + " makes no array", isMadeWithItsOwner());
            return super.visitNewArray(tree, v);
        }

        private boolean isMadeWithItsOwner() {
            return method.isEmpty() || method.endsWith("<init>");
        }

        @Override
        public Void visitThrow(ThrowTree tree, Void v) {
            Check.holds(method + " is one that may throw", Set.of("SnowCanton.known", "SnowCanton.proper").contains(method));
            return super.visitThrow(tree, v);
        }

        @Override
        public Void visitTry(TryTree tree, Void v) {
            Check.holds(method + " tries nothing", false);
            return super.visitTry(tree, v);
        }

        @Override
        public Void visitLambdaExpression(LambdaExpressionTree tree, Void v) {
            Check.holds(method + " has no lambda", false);
            return super.visitLambdaExpression(tree, v);
        }

        @Override
        public Void visitMemberReference(MemberReferenceTree tree, Void v) {
            Check.holds(method + " has no method reference", false);
            return super.visitMemberReference(tree, v);
        }

        @Override
        public Void visitIdentifier(IdentifierTree tree, Void v) {
            ownersOfTypes(element());
            return super.visitIdentifier(tree, v);
        }

        @Override
        public Void visitMemberSelect(MemberSelectTree tree, Void v) {
            ownersOfTypes(element());
            return super.visitMemberSelect(tree, v);
        }

        private void ownersOfTypes(Element e) {
            if (e != null && e.getKind() == ElementKind.CLASS && e.toString().startsWith("java.")) {
                Check.holds("the program may name " + e, Set.of("java.util.Arrays", "java.util.NoSuchElementException",
                    "java.lang.IllegalArgumentException", "java.lang.String", "java.lang.Integer", "java.lang.Math",
                    "java.lang.System").contains(e.toString()));
            }
        }

        void check() {
            Check.holds("the face has its methods, not " + faces, faces.size() == 29);
            for (String one : calls.keySet()) {
                boolean isInCircle = reached(one).contains(one);
                Check.holds(one + " calls itself only if it is a level of an EXPR", isInCircle == LEVEL_OF_AN_EXPR.contains(one));
            }
            for (String face : faces) {
                int deep = depth(face);
                Check.holds(face + " goes " + deep + " deep", deep <= DEEPEST_CALLS);
            }
        }

        private Set<String> reached(String from) {
            Set<String> all = new HashSet<>();
            List<String> rest = new java.util.ArrayList<>(calls.get(from));
            while (!rest.isEmpty()) {
                String next = rest.remove(rest.size() - 1);
                if (all.add(next)) {
                    rest.addAll(calls.getOrDefault(next, Set.of()));
                }
            }
            return all;
        }

        /** How many calls stand open at once, the library's too; a level of an EXPR counts once. */
        private int depth(String of) {
            Integer known = depths.get(of);
            if (known != null) {
                return known;
            }
            Set<String> same = LEVEL_OF_AN_EXPR.contains(of) ? LEVEL_OF_AN_EXPR : Set.of(of);
            int most = 0;
            for (String one : same) {
                for (String next : calls.getOrDefault(one, Set.of())) {
                    if (!same.contains(next)) {
                        most = Math.max(most, depth(next));
                    }
                }
            }
            depths.put(of, most + 1);
            return most + 1;
        }
    }
}
