import com.sun.source.tree.ClassTree;
import com.sun.source.tree.CompilationUnitTree;
import com.sun.source.tree.LineMap;
import com.sun.source.tree.LiteralTree;
import com.sun.source.tree.MethodInvocationTree;
import com.sun.source.tree.MethodTree;
import com.sun.source.tree.NewArrayTree;
import com.sun.source.tree.NewClassTree;
import com.sun.source.tree.Tree;
import com.sun.source.tree.VariableTree;
import com.sun.source.util.JavacTask;
import com.sun.source.util.SourcePositions;
import com.sun.source.util.TreePath;
import com.sun.source.util.TreePathScanner;
import com.sun.source.util.Trees;
import java.io.File;
import java.util.EnumSet;
import java.util.HashMap;
import java.util.HashSet;
import java.util.List;
import java.util.Map;
import java.util.Set;
import java.util.TreeMap;
import java.util.TreeSet;
import javax.lang.model.element.Element;
import javax.lang.model.element.ElementKind;
import javax.lang.model.element.Modifier;
import javax.tools.JavaCompiler;
import javax.tools.StandardJavaFileManager;
import javax.tools.ToolProvider;

/** Rules of ../shared/LANGUAGE.md that a machine can see, asked of src/main/java/YardYear.java. */
public final class LanguageTest {
    private static final String FACE = "put at of goes barred terms feed end row moles law orders fault stopped force bury buy"
        + " raise pass blocked undo where indoors ways packed meets meet find forget hidden spade compare arrives round"
        + " centuries drawn image back count status";
    private static final Set<String> LIBRARY = Set.of("System.arraycopy", "Math.max", "Math.min", "Math.floorMod",
        "String.length", "String.charAt", "String.indexOf");
    private static final Set<Tree.Kind> BARRED = EnumSet.of(Tree.Kind.THROW, Tree.Kind.TRY, Tree.Kind.SYNCHRONIZED,
        Tree.Kind.ASSERT, Tree.Kind.LAMBDA_EXPRESSION, Tree.Kind.MEMBER_REFERENCE, Tree.Kind.SWITCH_EXPRESSION,
        Tree.Kind.IMPORT, Tree.Kind.PACKAGE, Tree.Kind.ANNOTATION, Tree.Kind.INSTANCE_OF);
    private static int wrong;

    private static void require(boolean holds, String rule) {
        if (!holds) {
            wrong++;
            System.out.println("LanguageTest: " + rule);
        }
    }

    public static void main(String[] args) throws Exception {
        JavaCompiler compiler = ToolProvider.getSystemJavaCompiler();
        StandardJavaFileManager files = compiler.getStandardFileManager(null, null, null);
        JavacTask task = (JavacTask) compiler.getTask(null, files, null, List.of("-proc:none"), null,
            files.getJavaFileObjects(new File(args[0])));
        CompilationUnitTree unit = task.parse().iterator().next();
        task.analyze();
        Look look = new Look(unit, Trees.instance(task));
        look.scan(unit, null);
        look.report();
        System.out.println("LanguageTest: " + wrong + " wrong, " + look.calls.size() + " methods, calls go "
            + look.deepest() + " deep");
        if (wrong > 0) {
            System.exit(1);
        }
    }

    private static final class Look extends TreePathScanner<Void, Void> {
        private final CompilationUnitTree unit;
        private final SourcePositions places;
        private final Trees trees;
        private final LineMap lines;
        private final Map<Element, Set<Element>> calls = new HashMap<>();
        private final Map<String, Integer> fields = new TreeMap<>();
        private final Set<String> open = new TreeSet<>();
        private final Set<String> closed = new TreeSet<>();
        private Element now;
        private int classes;

        Look(CompilationUnitTree unit, Trees trees) {
            this.unit = unit;
            this.trees = trees;
            places = trees.getSourcePositions();
            lines = unit.getLineMap();
        }

        private long line(Tree tree) {
            return lines.getLineNumber(places.getStartPosition(unit, tree));
        }

        @Override
        public Void scan(Tree tree, Void none) {
            if (tree != null) {
                require(!BARRED.contains(tree.getKind()), "line " + line(tree) + ": " + tree.getKind());
            }
            return super.scan(tree, none);
        }

        @Override
        public Void visitClass(ClassTree tree, Void none) {
            classes++;
            Set<Modifier> flags = tree.getModifiers().getFlags();
            boolean outer = getCurrentPath().getParentPath().getLeaf() == unit;
            require(outer == flags.contains(Modifier.PUBLIC), "line " + line(tree) + ": public class");
            require(outer || flags.contains(Modifier.STATIC), "line " + line(tree) + ": a class that is not static");
            require(outer || getCurrentPath().getParentPath().getParentPath().getLeaf() == unit,
                "line " + line(tree) + ": a class within a class within");
            return super.visitClass(tree, none);
        }

        @Override
        public Void visitVariable(VariableTree tree, Void none) {
            TreePath up = getCurrentPath().getParentPath();
            if (up.getLeaf() instanceof ClassTree owner) {
                Set<Modifier> flags = tree.getModifiers().getFlags();
                boolean fixed = flags.contains(Modifier.STATIC);
                require(!fixed || flags.contains(Modifier.FINAL), "line " + line(tree) + ": static and not final");
                require(flags.contains(Modifier.PRIVATE) || tree.getName().contentEquals("NONE"),
                    "line " + line(tree) + ": a field that is not private");
                fields.merge(owner.getSimpleName().toString(), fixed ? 0 : 1, Integer::sum);
            }
            return super.visitVariable(tree, none);
        }

        @Override
        public Void visitMethod(MethodTree tree, Void none) {
            long from = line(tree);
            long to = lines.getLineNumber(places.getEndPosition(unit, tree));
            require(to - from < 60 || from < 0, "line " + from + ": a method of " + (to - from + 1) + " lines");
            require(tree.getParameters().size() <= 7, "line " + from + ": more than seven parameters");
            now = trees.getElement(getCurrentPath());
            calls.put(now, new HashSet<>());
            if (now.getKind() == ElementKind.METHOD) {
                boolean isPublic = tree.getModifiers().getFlags().contains(Modifier.PUBLIC);
                (isPublic ? open : closed).add(tree.getName().toString());
                require(isPublic || tree.getModifiers().getFlags().contains(Modifier.PRIVATE)
                    || !owner(now).equals("YardYear"), "line " + from + ": neither public nor private");
            }
            super.visitMethod(tree, none);
            now = null;
            return null;
        }

        private static String owner(Element e) {
            return e.getEnclosingElement().getSimpleName().toString();
        }

        @Override
        public Void visitMethodInvocation(MethodInvocationTree tree, Void none) {
            Element called = trees.getElement(new TreePath(getCurrentPath(), tree.getMethodSelect()));
            String name = owner(called) + "." + called.getSimpleName();
            if (called.getEnclosingElement().toString().startsWith("YardYear")) {
                require(now != null, "line " + line(tree) + ": a call in a field's initialiser");
                calls.getOrDefault(now, new HashSet<>()).add(called);
            } else {
                require(LIBRARY.contains(name) || name.equals("Object.<init>"), "line " + line(tree) + ": calls " + name);
            }
            return super.visitMethodInvocation(tree, none);
        }

        @Override
        public Void visitNewClass(NewClassTree tree, Void none) {
            require(tree.getClassBody() == null, "line " + line(tree) + ": an anonymous class");
            made(tree);
            return super.visitNewClass(tree, none);
        }

        @Override
        public Void visitNewArray(NewArrayTree tree, Void none) {
            made(tree);
            return super.visitNewArray(tree, none);
        }

        // Our own rule for the ROOM: a call makes nothing.
        private void made(Tree tree) {
            require(now == null || now.getKind() == ElementKind.CONSTRUCTOR, "line " + line(tree) + ": made in a call");
        }

        @Override
        public Void visitLiteral(LiteralTree tree, Void none) {
            if (tree.getValue() instanceof String s) {
                require(s.chars().allMatch(c -> c >= 1 && c <= 127), "line " + line(tree) + ": a sign in a String");
            }
            return super.visitLiteral(tree, none);
        }

        private void report() {
            require(classes <= 12, classes + " classes");
            fields.forEach((name, count) -> require(count <= 20, name + " has " + count + " fields"));
            require(open.equals(new TreeSet<>(List.of(FACE.split(" ")))), "the face is " + open);
            for (String name : closed) {
                require(!open.contains(name), "a method within is named like one of the face: " + name);
                require(!Set.of("equals", "hashCode", "toString").contains(name), "own " + name);
            }
            require(deepest() <= 8, "calls go " + deepest() + " deep");
        }

        private int deepest() {
            int most = 0;
            for (Element method : calls.keySet()) {
                most = Math.max(most, depth(method, new HashSet<>()));
            }
            return most;
        }

        /** The longest chain of methods from one on in which none comes twice. */
        private int depth(Element method, Set<Element> above) {
            if (!above.add(method)) {
                return 0;
            }
            int most = 0;
            for (Element called : calls.getOrDefault(method, Set.of())) {
                if (!above.contains(called)) {
                    most = Math.max(most, depth(called, above));
                }
            }
            above.remove(method);
            return most + 1;
        }
    }
}
