import com.sun.source.tree.BinaryTree;
import com.sun.source.tree.ClassTree;
import com.sun.source.tree.CompilationUnitTree;
import com.sun.source.tree.ImportTree;
import com.sun.source.tree.LineMap;
import com.sun.source.tree.MethodInvocationTree;
import com.sun.source.tree.MethodTree;
import com.sun.source.tree.NewClassTree;
import com.sun.source.tree.Tree;
import com.sun.source.tree.TypeCastTree;
import com.sun.source.tree.VariableTree;
import com.sun.source.util.JavacTask;
import com.sun.source.util.TreePath;
import com.sun.source.util.TreePathScanner;
import com.sun.source.util.Trees;
import java.nio.file.Path;
import java.util.ArrayList;
import java.util.HashMap;
import java.util.HashSet;
import java.util.LinkedHashMap;
import java.util.LinkedHashSet;
import java.util.List;
import java.util.Map;
import java.util.Set;
import javax.lang.model.element.Element;
import javax.lang.model.element.ElementKind;
import javax.lang.model.element.Modifier;
import javax.lang.model.element.TypeElement;
import javax.lang.model.type.TypeKind;
import javax.lang.model.type.TypeMirror;
import javax.tools.JavaCompiler;
import javax.tools.StandardJavaFileManager;
import javax.tools.ToolProvider;

/** The rules of LANGUAGE.md, as the compiler itself reads the class: kinds of code, what it calls, how deep, how long. */
public final class LanguageTests {
    private static final Path CLASS = Path.of("src/main/java/CanoeSides.java");
    private static final Set<Tree.Kind> FORBIDDEN = Set.of(Tree.Kind.THROW, Tree.Kind.TRY, Tree.Kind.CATCH, Tree.Kind.SYNCHRONIZED,
        Tree.Kind.ASSERT, Tree.Kind.LAMBDA_EXPRESSION, Tree.Kind.MEMBER_REFERENCE, Tree.Kind.ANNOTATION, Tree.Kind.BINDING_PATTERN,
        Tree.Kind.SWITCH_EXPRESSION, Tree.Kind.UNION_TYPE, Tree.Kind.INTERSECTION_TYPE, Tree.Kind.FLOAT_LITERAL,
        Tree.Kind.DOUBLE_LITERAL, Tree.Kind.PACKAGE, Tree.Kind.LABELED_STATEMENT, Tree.Kind.UNBOUNDED_WILDCARD);
    private static final Set<String> LIBRARY = Set.of("String.length", "String.charAt", "String.isEmpty", "String.equals",
        "String.indexOf", "String.substring", "String.toCharArray", "Math.max", "Math.min", "Math.abs", "Math.floorDiv",
        "Math.floorMod", "Integer.compare", "Integer.bitCount", "System.arraycopy", "Arrays.copyOf", "Arrays.copyOfRange", "Arrays.fill",
        "Object.<init>");
    private static final int MOST_LINES = 60, MOST_PARAMETERS = 7, MOST_CLASSES = 12, MOST_FIELDS = 20, DEEPEST = 8;

    private final Map<Element, Set<Element>> calls = new LinkedHashMap<>();
    private final Map<Element, Integer> depths = new HashMap<>();
    private final Set<String> faces = new HashSet<>();
    private int classes = 0;

    public static void main(String[] args) throws Exception {
        new LanguageTests().all();
        room();
        Due.end("LanguageTests");
    }

    private static void holds(String what, boolean so) {
        Due.due(what, so ? 1 : 0, 1);
    }

    private void all() throws Exception {
        JavaCompiler compiler = ToolProvider.getSystemJavaCompiler();
        try (StandardJavaFileManager files = compiler.getStandardFileManager(null, null, null)) {
            JavacTask task = (JavacTask) compiler.getTask(null, files, null, List.of("-proc:none"), null,
                files.getJavaFileObjects(CLASS.toFile()));
            CompilationUnitTree unit = task.parse().iterator().next();
            task.analyze();
            Trees trees = Trees.instance(task);
            for (ImportTree one : unit.getImports()) {
                holds("imports the library alone: " + one, one.toString().trim().startsWith("import java.util."));
            }
            Due.due("rule 1: classes beside the public one", unit.getTypeDecls().size(), 1);
            faces(trees, unit);
            new Reading(trees, unit).scan(unit, null);
        }
        Due.about("rule 11: ");
        holds(classes + " classes", classes <= MOST_CLASSES);
        for (Element method : calls.keySet()) {
            holds(method + " goes " + depth(method, new ArrayList<>()) + " deep", depth(method, new ArrayList<>()) <= DEEPEST);
        }
    }

    private void faces(Trees trees, CompilationUnitTree unit) {
        Tree face = unit.getTypeDecls().get(0);
        for (Element member : trees.getElement(TreePath.getPath(unit, face)).getEnclosedElements()) {
            if (member.getKind() == ElementKind.METHOD && member.getModifiers().contains(Modifier.PUBLIC)) {
                faces.add(member.getSimpleName().toString());
            }
        }
    }

    /** Calls that stand open at once, this one told in; a call within itself is a fault, as the class has no recursion. */
    private int depth(Element method, List<Element> open) {
        Integer known = depths.get(method);
        if (known != null) {
            return known;
        }
        if (open.contains(method)) {
            return 1000;
        }
        open.add(method);
        int deepest = 0;
        for (Element called : calls.getOrDefault(method, Set.of())) {
            deepest = Math.max(deepest, depth(called, open));
        }
        open.remove(method);
        depths.put(method, deepest + 1);
        return deepest + 1;
    }

    private final class Reading extends TreePathScanner<Void, Void> {
        private final Trees trees;
        private final LineMap lines;
        private final CompilationUnitTree unit;
        private Element method = null;

        Reading(Trees trees, CompilationUnitTree unit) {
            this.trees = trees;
            this.unit = unit;
            this.lines = unit.getLineMap();
        }

        private long line(Tree tree) {
            return lines.getLineNumber(trees.getSourcePositions().getStartPosition(unit, tree));
        }

        private long lastLine(Tree tree) {
            return lines.getLineNumber(trees.getSourcePositions().getEndPosition(unit, tree));
        }

        @Override
        public Void scan(Tree tree, Void unused) {
            if (tree != null) {
                Due.about("rules 2, 3, 6: ");
                holds("line " + line(tree) + " has no " + tree.getKind(), !FORBIDDEN.contains(tree.getKind()));
            }
            return super.scan(tree, unused);
        }

        @Override
        public Void visitClass(ClassTree tree, Void unused) {
            classes++;
            Element own = trees.getElement(getCurrentPath());
            boolean outermost = getCurrentPath().getParentPath().getLeaf() == unit;
            Due.about("rule 2: ");
            holds(own + " is final, and static within", own.getModifiers().contains(Modifier.FINAL)
                && (outermost || own.getModifiers().contains(Modifier.STATIC) && own.getEnclosingElement().getKind() == ElementKind.CLASS));
            holds(own + " extends nothing", tree.getExtendsClause() == null && tree.getImplementsClause().isEmpty());
            int fields = 0;
            for (Tree member : tree.getMembers()) {
                boolean field = member instanceof VariableTree v && !v.getModifiers().getFlags().contains(Modifier.STATIC);
                fields += field ? 1 : 0;
                holds("rule 5: no initialiser block", member.getKind() != Tree.Kind.BLOCK);
            }
            Due.about("rule 11: ");
            holds(own + " has " + fields + " fields", fields <= MOST_FIELDS);
            return super.visitClass(tree, unused);
        }

        @Override
        public Void visitMethod(MethodTree tree, Void unused) {
            method = trees.getElement(getCurrentPath());
            calls.putIfAbsent(method, new LinkedHashSet<>());
            long many = lastLine(tree) - line(tree) + 1;
            Due.about("rule 11: ");
            holds(method + " has " + many + " lines", many <= MOST_LINES);
            holds(method + " takes seven at most", tree.getParameters().size() <= MOST_PARAMETERS);
            Due.about("rule 1: ");
            boolean open = method.getModifiers().contains(Modifier.PUBLIC);
            holds(method + " bears no name of the face", open || !faces.contains(method.getSimpleName().toString()));
            super.visitMethod(tree, unused);
            method = null;
            return null;
        }

        @Override
        public Void visitVariable(VariableTree tree, Void unused) {
            Element own = trees.getElement(getCurrentPath());
            TypeMirror type = trees.getTypeMirror(getCurrentPath());
            Due.about("rules 3, 5: ");
            holds(own + " is of a type that may be: " + type, mayBe(type.toString()));
            if (own.getModifiers().contains(Modifier.STATIC)) {
                holds(own + " is final", own.getModifiers().contains(Modifier.FINAL));
                holds(own + " is a constant: " + type,
                    Set.of("int", "long", "boolean", "char", "java.lang.String", "int[]").contains(type.toString()));
                holds(own + " is written out", !type.toString().equals("int[]")
                    || tree.getInitializer() != null && tree.getInitializer().getKind() == Tree.Kind.NEW_ARRAY);
            }
            return super.visitVariable(tree, unused);
        }

        private boolean mayBe(String type) {
            return Set.of("int", "int[]", "boolean", "java.lang.String").contains(type) || type.startsWith("CanoeSides");
        }

        @Override
        public Void visitMethodInvocation(MethodInvocationTree tree, Void unused) {
            call(trees.getElement(getCurrentPath()), tree);
            return super.visitMethodInvocation(tree, unused);
        }

        @Override
        public Void visitNewClass(NewClassTree tree, Void unused) {
            call(trees.getElement(getCurrentPath()), tree);
            Due.about("rule 12: ");
            for (TreePath path = getCurrentPath(); path != null && path.getLeaf() != unit; path = path.getParentPath()) {
                Tree.Kind kind = path.getLeaf().getKind();
                holds("line " + line(tree) + " makes nothing in a loop",
                    kind != Tree.Kind.FOR_LOOP && kind != Tree.Kind.WHILE_LOOP && kind != Tree.Kind.DO_WHILE_LOOP);
            }
            return super.visitNewClass(tree, unused);
        }

        private void call(Element called, Tree tree) {
            TypeElement owner = (TypeElement) called.getEnclosingElement();
            boolean own = owner.getQualifiedName().toString().startsWith("CanoeSides");
            Due.about("rule 4: ");
            holds("line " + line(tree) + " calls " + owner + "." + called,
                own || LIBRARY.contains(owner.getSimpleName() + "." + called.getSimpleName()));
            if (own && method != null) {
                calls.get(method).add(called);
            }
        }

        @Override
        public Void visitTypeCast(TypeCastTree tree, Void unused) {
            Due.about("rule 6: ");
            holds("line " + line(tree) + " casts numbers alone", trees.getTypeMirror(getCurrentPath()).getKind().isPrimitive());
            return super.visitTypeCast(tree, unused);
        }

        @Override
        public Void visitBinary(BinaryTree tree, Void unused) {
            TypeMirror type = trees.getTypeMirror(getCurrentPath());
            Due.about("rule 10: ");
            holds("line " + line(tree) + " joins no texts by +", type.getKind() != TypeKind.DECLARED);
            if (tree.getKind() == Tree.Kind.EQUAL_TO || tree.getKind() == Tree.Kind.NOT_EQUAL_TO) {
                String left = trees.getTypeMirror(new TreePath(getCurrentPath(), tree.getLeftOperand())).toString();
                Due.about("rule 6: ");
                holds("line " + line(tree) + " sets no texts side by side", !left.equals("java.lang.String") && !left.endsWith("Integer"));
            }
            return super.visitBinary(tree, unused);
        }
    }

    /** Rule 12: what a whole run of the dearest calls makes stays far within the room of all runs. */
    private static void room() throws Exception {
        Due.about("rule 12: ");
        com.sun.management.ThreadMXBean threads =
            (com.sun.management.ThreadMXBean) java.lang.management.ManagementFactory.getThreadMXBean();
        dearest(new CanoeSides());
        long before = threads.getCurrentThreadAllocatedBytes();
        dearest(new CanoeSides());
        long made = threads.getCurrentThreadAllocatedBytes() - before;
        holds(made + " bytes made by an object and its 512 calls", made < 1 << 19);
    }

    private static void dearest(CanoeSides x) {
        for (char letter : "r1 1.;w0 1;".toCharArray()) {
            x.feed(letter);
        }
        for (int i = 0; i < 199; i++) {
            x.river();
            x.keep(i % 2);
        }
        for (char letter : "r2 2....;g1 1 7;w0 1;".toCharArray()) {
            x.feed(letter);
        }
        x.river();
        for (int i = 0; i < 10; i++) {
            x.drift(99);
            x.fewest(i);
            x.calls(i, 0);
            x.surely(1);
            x.third(1 + i % 9);
            x.round(i, 0);
            x.rules(0);
            x.still(0);
        }
    }
}
