import com.sun.source.tree.BlockTree;
import com.sun.source.tree.ClassTree;
import com.sun.source.tree.CompilationUnitTree;
import com.sun.source.tree.IdentifierTree;
import com.sun.source.tree.MemberSelectTree;
import com.sun.source.tree.MethodInvocationTree;
import com.sun.source.tree.MethodTree;
import com.sun.source.tree.NewArrayTree;
import com.sun.source.tree.NewClassTree;
import com.sun.source.tree.Tree;
import com.sun.source.tree.VariableTree;
import com.sun.source.util.JavacTask;
import com.sun.source.util.TreePathScanner;
import com.sun.source.util.Trees;
import java.io.File;
import java.io.IOException;
import java.util.HashMap;
import java.util.HashSet;
import java.util.List;
import java.util.Map;
import java.util.Set;
import java.util.TreeSet;
import javax.lang.model.element.Element;
import javax.lang.model.element.ElementKind;
import javax.lang.model.element.ExecutableElement;
import javax.lang.model.element.Modifier;
import javax.tools.JavaCompiler;
import javax.tools.StandardJavaFileManager;
import javax.tools.ToolProvider;

/** The rules of LANGUAGE.md that only the source's tree can tell, as the compiler reads it. */
public final class RulesTest {
    private static final Check CHECK = new Check("RulesTest");
    private static final String SOURCE = "src/main/java/MiddlePlank.java";
    private static final int MOST_LINES = 60, MOST_PARAMETERS = 7, MOST_FIELDS = 20, DEEPEST = 8;

    /** Of rule 4, what the class needs; whoever needs more of that rule puts it here. */
    private static final Set<String> LIBRARY = Set.of(
            "java.lang.Math.max", "java.lang.Math.min", "java.lang.Math.floorMod", "java.lang.System.arraycopy");
    private static final Set<String> TYPES = Set.of("java.lang.Math", "java.lang.System", "java.lang.Object");
    private static final Set<String> STATIC_TYPES = Set.of(
            "int", "long", "boolean", "char", "java.lang.String", "int[]", "long[]", "char[]", "byte[]");

    public static void main(String[] args) throws IOException {
        JavaCompiler compiler = ToolProvider.getSystemJavaCompiler();
        try (StandardJavaFileManager files = compiler.getStandardFileManager(null, null, null)) {
            JavacTask task = (JavacTask) compiler.getTask(null, files, null, List.of("-proc:none"), null,
                    files.getJavaFileObjects(new File(SOURCE)));
            CompilationUnitTree unit = task.parse().iterator().next();
            task.analyze();
            Reader reader = new Reader(Trees.instance(task), unit);
            reader.scan(unit, null);
            CHECK.holds("the source has methods", reader.calls.size() > 34);
            depths(reader.calls);
        }
        CHECK.end();
    }

    /** Rules 8 and 11: the class has no recursion at all, so every chain of calls has a length. */
    private static void depths(Map<Element, Set<Element>> calls) {
        Map<Element, Integer> known = new HashMap<>();
        for (Element method : calls.keySet()) {
            int depth = depthOf(method, calls, known, new HashSet<>());
            CHECK.holds("rule 11: calls go " + depth + " deep from " + method, depth <= DEEPEST);
        }
    }

    private static int depthOf(Element method, Map<Element, Set<Element>> calls, Map<Element, Integer> known,
            Set<Element> open) {
        if (known.containsKey(method)) {
            return known.get(method);
        }
        if (!open.add(method)) {
            CHECK.holds("rule 8: " + method + " comes to call itself", false);
            return 0;
        }
        int deepest = 0;
        for (Element called : calls.getOrDefault(method, Set.of())) {
            deepest = Math.max(deepest, depthOf(called, calls, known, open));
        }
        open.remove(method);
        known.put(method, deepest + 1);
        return deepest + 1;
    }

    private static final class Reader extends TreePathScanner<Void, Void> {
        private final Map<Element, Set<Element>> calls = new HashMap<>();
        private final Trees trees;
        private final CompilationUnitTree unit;
        private ExecutableElement inside;

        Reader(Trees trees, CompilationUnitTree unit) {
            this.trees = trees;
            this.unit = unit;
        }

        private Element here() {
            return trees.getElement(getCurrentPath());
        }

        private long line(Tree tree) {
            return unit.getLineMap().getLineNumber(trees.getSourcePositions().getStartPosition(unit, tree));
        }

        private long lastLine(Tree tree) {
            return unit.getLineMap().getLineNumber(trees.getSourcePositions().getEndPosition(unit, tree));
        }

        @Override
        public Void visitClass(ClassTree tree, Void nothing) {
            Element element = here();
            Set<String> names = new TreeSet<>();
            for (Tree member : tree.getMembers()) {
                if (member instanceof VariableTree field
                        && !field.getModifiers().getFlags().contains(Modifier.STATIC)) {
                    names.add(field.getName().toString());
                }
                CHECK.holds("rule 5: no block at line " + line(member), !(member instanceof BlockTree));
            }
            CHECK.holds("rule 11: fields of " + element + " " + names, names.size() <= MOST_FIELDS);
            boolean outer = element.getEnclosingElement().getKind() == ElementKind.PACKAGE;
            CHECK.holds("rule 2: " + element + " is static", outer || element.getModifiers().contains(Modifier.STATIC));
            return super.visitClass(tree, nothing);
        }

        @Override
        public Void visitVariable(VariableTree tree, Void nothing) {
            Element element = here();
            if (element.getModifiers().contains(Modifier.STATIC)) {
                CHECK.holds("rule 5: " + element + " is final", element.getModifiers().contains(Modifier.FINAL));
                CHECK.holds("rule 5: type of " + element, STATIC_TYPES.contains(element.asType().toString()));
            }
            return super.visitVariable(tree, nothing);
        }

        @Override
        public Void visitMethod(MethodTree tree, Void nothing) {
            inside = (ExecutableElement) here();
            calls.put(inside, new HashSet<>());
            CHECK.holds("rule 11: parameters of " + inside, tree.getParameters().size() <= MOST_PARAMETERS);
            CHECK.holds("rule 11: lines of " + inside, lastLine(tree) - line(tree) < MOST_LINES);
            super.visitMethod(tree, nothing);
            inside = null;
            return null;
        }

        @Override
        public Void visitMethodInvocation(MethodInvocationTree tree, Void nothing) {
            Element called = here();
            String name = called.getEnclosingElement() + "." + called.getSimpleName();
            if (name.startsWith("MiddlePlank")) {
                CHECK.holds("line " + line(tree) + ": a call stands in a method", inside != null);
                calls.getOrDefault(inside, new HashSet<>()).add(called);
            } else {
                boolean own = called.getKind() == ElementKind.CONSTRUCTOR;
                CHECK.holds("rule 4: " + name + " at line " + line(tree), own || LIBRARY.contains(name));
            }
            return super.visitMethodInvocation(tree, nothing);
        }

        /** Rule 4 again, as a class of the library may be named without a call. */
        private void named(Tree tree) {
            Element element = here();
            if (element != null && (element.getKind().isClass() || element.getKind().isInterface())) {
                String name = element.toString();
                CHECK.holds("rule 4: " + name + " at line " + line(tree),
                        name.startsWith("MiddlePlank") || TYPES.contains(name));
            }
        }

        @Override
        public Void visitIdentifier(IdentifierTree tree, Void nothing) {
            named(tree);
            return super.visitIdentifier(tree, nothing);
        }

        @Override
        public Void visitMemberSelect(MemberSelectTree tree, Void nothing) {
            named(tree);
            return super.visitMemberSelect(tree, nothing);
        }

        /** Rule 12, and the one room of all calls: rows are made with the object and used again. */
        private void made(Tree tree) {
            boolean early = inside == null || inside.getKind() == ElementKind.CONSTRUCTOR;
            CHECK.holds("rule 12: made at line " + line(tree) + ", in " + inside, early);
        }

        @Override
        public Void visitNewClass(NewClassTree tree, Void nothing) {
            made(tree);
            CHECK.holds("rule 2: a class without a name at line " + line(tree), tree.getClassBody() == null);
            return super.visitNewClass(tree, nothing);
        }

        @Override
        public Void visitNewArray(NewArrayTree tree, Void nothing) {
            made(tree);
            return super.visitNewArray(tree, nothing);
        }
    }
}
