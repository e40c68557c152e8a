import com.sun.source.tree.*;
import com.sun.source.util.JavacTask;
import com.sun.source.util.SourcePositions;
import com.sun.source.util.TreeScanner;
import com.sun.source.util.Trees;
import java.nio.file.Files;
import java.nio.file.Path;
import java.util.HashMap;
import java.util.HashSet;
import java.util.List;
import java.util.Map;
import java.util.Set;
import java.util.TreeSet;
import javax.lang.model.element.Modifier;
import javax.tools.JavaCompiler;
import javax.tools.StandardJavaFileManager;
import javax.tools.ToolProvider;

/**
 * The rules of LANGUAGE.md that can be read off the source, and one of the project's own: objects and arrays are
 * made in constructors and fields alone, so that no call makes any.
 */
public final class LanguageTest extends TreeScanner<Void, Void> {
    private static final Path SOURCE = Path.of("src/main/java/ShorthandCourt.java");
    private static final Set<String> LIBRARY = Set.of("Arrays.fill", "Arrays.copyOf", "Arrays.copyOfRange",
        "System.arraycopy", "Integer.bitCount", "Integer.compare", "Math.max", "Math.min", "Math.abs");
    private static final Set<String> LIBRARY_CLASSES = Set.of("Arrays", "System", "Integer", "Long", "Math");
    private static final Set<Tree.Kind> RULED_OUT = Set.of(Tree.Kind.THROW, Tree.Kind.TRY, Tree.Kind.SYNCHRONIZED,
        Tree.Kind.ASSERT, Tree.Kind.LAMBDA_EXPRESSION, Tree.Kind.MEMBER_REFERENCE, Tree.Kind.ANNOTATION);
    private static final int MOST_LINES = 60, MOST_PARAMETERS = 7, MOST_CLASSES = 12, MOST_FIELDS = 20, DEEPEST = 8;
    /** The one method that may call itself, three deep. */
    private static final String CALLS_ITSELF = "ordersThatGive";
    private static final Due d = new Due("LanguageTest");

    private final CompilationUnitTree unit;
    private final SourcePositions positions;
    private final Map<String, Set<String>> calls = new HashMap<>();
    private final Set<String> publicMethods = new HashSet<>();
    private String method = "";
    private int classes;

    private LanguageTest(CompilationUnitTree unit, SourcePositions positions) {
        this.unit = unit;
        this.positions = positions;
    }

    public static void main(String[] args) throws Exception {
        for (byte b : Files.readAllBytes(SOURCE)) {
            if (b < 1) {
                d.fail("a sign that is not 1 to 127");
            }
        }
        JavaCompiler compiler = ToolProvider.getSystemJavaCompiler();
        StandardJavaFileManager files = compiler.getStandardFileManager(null, null, null);
        JavacTask task = (JavacTask) compiler.getTask(null, files, null, null, null, files.getJavaFileObjects(SOURCE));
        CompilationUnitTree unit = task.parse().iterator().next();
        LanguageTest test = new LanguageTest(unit, Trees.instance(task).getSourcePositions());
        test.scan(unit, null);
        test.whole();
        d.end();
    }

    private void whole() {
        d.due("no package", unit.getPackageName() == null ? 1 : 0, 1);
        for (ImportTree i : unit.getImports()) {
            boolean fine = Set.of("java.util.Arrays", "java.util.ArrayList", "java.util.List", "java.util.Iterator")
                .contains(i.getQualifiedIdentifier().toString());
            d.due("import " + i.getQualifiedIdentifier(), fine ? 1 : 0, 1);
        }
        most("classes", classes, MOST_CLASSES);
        for (String name : publicMethods) {
            most("calls open at once from " + name, depth(name, 0), DEEPEST);
        }
    }

    private void most(String what, long got, long limit) {
        d.due(what + ": " + got + " above " + limit, got > limit ? 1 : 0, 0);
    }

    private int depth(String name, int open) {
        if (open > 20) {
            d.fail(name + " calls itself, or calls go too deep");
            return open;
        }
        int deepest = 0;
        for (String called : new TreeSet<>(calls.getOrDefault(name, Set.of()))) {
            if (calls.containsKey(called) && !(called.equals(name) && name.equals(CALLS_ITSELF))) {
                deepest = Math.max(deepest, depth(called, open + 1));
            }
        }
        return deepest + 1;
    }

    @Override
    public Void scan(Tree tree, Void nothing) {
        if (tree != null && RULED_OUT.contains(tree.getKind())) {
            d.fail("ruled out: " + tree);
        }
        return super.scan(tree, nothing);
    }

    @Override
    public Void visitClass(ClassTree tree, Void nothing) {
        classes++;
        int fields = 0;
        for (Tree member : tree.getMembers()) {
            if (member instanceof VariableTree field) {
                fields += isStatic(field) ? 0 : 1;
                d.due("static " + field.getName() + " is final",
                    isStatic(field) && !field.getModifiers().getFlags().contains(Modifier.FINAL) ? 1 : 0, 0);
                d.due("static " + field.getName() + " is a constant",
                    isStatic(field) && !field.getType().toString().matches("int|long|boolean|char|String") ? 1 : 0, 0);
            }
            d.due("a block in " + tree.getSimpleName(), member instanceof BlockTree ? 1 : 0, 0);
        }
        most("fields of " + tree.getSimpleName(), fields, MOST_FIELDS);
        boolean inside = !tree.getSimpleName().contentEquals("ShorthandCourt");
        boolean isStatic = tree.getModifiers().getFlags().contains(Modifier.STATIC);
        d.due(tree.getSimpleName() + " is static", inside && !isStatic ? 1 : 0, 0);
        return super.visitClass(tree, nothing);
    }

    private static boolean isStatic(VariableTree field) {
        return field.getModifiers().getFlags().contains(Modifier.STATIC);
    }

    @Override
    public Void visitMethod(MethodTree tree, Void nothing) {
        method = tree.getName().toString();
        if (!method.equals("<init>")) {
            d.due(method + " is told twice", calls.containsKey(method) ? 1 : 0, 0);
            calls.put(method, new HashSet<>());
        }
        if (tree.getModifiers().getFlags().contains(Modifier.PUBLIC)) {
            publicMethods.add(method);
        }
        LineMap lines = unit.getLineMap();
        long first = lines.getLineNumber(positions.getStartPosition(unit, tree));
        long last = lines.getLineNumber(positions.getEndPosition(unit, tree));
        most("lines of " + method, last - first + 1, MOST_LINES);
        most("parameters of " + method, tree.getParameters().size(), MOST_PARAMETERS);
        d.due("own " + method, Set.of("equals", "hashCode", "toString").contains(method) ? 1 : 0, 0);
        super.visitMethod(tree, nothing);
        method = "";
        return null;
    }

    @Override
    public Void visitMethodInvocation(MethodInvocationTree tree, Void nothing) {
        String called = tree.getMethodSelect().toString();
        String owner = called.contains(".") ? called.substring(0, called.lastIndexOf('.')) : "";
        if (LIBRARY_CLASSES.contains(owner)) {
            d.due("library: " + called, LIBRARY.contains(called) ? 1 : 0, 1);
        } else {
            calls.computeIfAbsent(method, m -> new HashSet<>()).add(called.substring(called.lastIndexOf('.') + 1));
        }
        return super.visitMethodInvocation(tree, nothing);
    }

    private void made(Tree tree) {
        d.due(method + " makes " + tree, method.equals("<init>") || method.isEmpty() ? 1 : 0, 1);
    }

    @Override
    public Void visitNewClass(NewClassTree tree, Void nothing) {
        made(tree);
        d.due("a class without a name", tree.getClassBody() == null ? 0 : 1, 0);
        return super.visitNewClass(tree, nothing);
    }

    @Override
    public Void visitNewArray(NewArrayTree tree, Void nothing) {
        made(tree);
        return super.visitNewArray(tree, nothing);
    }
}
