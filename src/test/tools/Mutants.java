import com.sun.source.tree.*;
import com.sun.source.util.JavacTask;
import com.sun.source.util.SourcePositions;
import com.sun.source.util.TreeScanner;
import com.sun.source.util.Trees;
import java.io.File;
import java.io.Writer;
import java.nio.file.Files;
import java.nio.file.Path;
import java.util.ArrayList;
import java.util.Comparator;
import java.util.List;
import java.util.Map;
import java.util.concurrent.ExecutorService;
import java.util.concurrent.Executors;
import java.util.concurrent.Future;
import java.util.concurrent.TimeUnit;
import java.util.stream.Stream;
import javax.tools.JavaCompiler;
import javax.tools.StandardJavaFileManager;
import javax.tools.ToolProvider;

/**
 * A test of the tests: breaks the program in one place at a time, and prints each break that none of the named
 * tests notices. Such a break is either none (the program answers as before) or wants a test.
 *
 *     java src/test/tools/Mutants.java EdgesCourtTest EdgesActsTest ..
 */
public final class Mutants extends TreeScanner<Void, Void> {
    private static final Path SOURCE = Path.of("src/main/java/ShorthandCourt.java");
    private static final long SECONDS = 60;
    private static final Map<String, List<String>> OPERATORS = Map.ofEntries(
        Map.entry("<", List.of("<=", ">=")), Map.entry("<=", List.of("<", ">")), Map.entry(">", List.of(">=", "<=")),
        Map.entry(">=", List.of(">", "<")), Map.entry("==", List.of("!=")), Map.entry("!=", List.of("==")),
        Map.entry("&&", List.of("||")), Map.entry("||", List.of("&&")), Map.entry("+", List.of("-")),
        Map.entry("-", List.of("+")), Map.entry("*", List.of("+")), Map.entry("/", List.of("*")),
        Map.entry("%", List.of("/")), Map.entry("<<", List.of(">>")), Map.entry(">>", List.of("<<")),
        Map.entry(">>>", List.of("<<", ">>")), Map.entry("|", List.of("&")), Map.entry("&", List.of("|")));
    private static final List<String> ANSWERS = List.of("UNKNOWN", "OUTSIDE", "STATE", "FULL", "NONE");

    private record Break(long from, long to, String by) { }

    private final String source;
    private final CompilationUnitTree unit;
    private final SourcePositions positions;
    private final List<Break> breaks = new ArrayList<>();

    private Mutants(String source, CompilationUnitTree unit, SourcePositions positions) {
        this.source = source;
        this.unit = unit;
        this.positions = positions;
    }

    public static void main(String[] tests) throws Exception {
        JavaCompiler compiler = ToolProvider.getSystemJavaCompiler();
        StandardJavaFileManager files = compiler.getStandardFileManager(null, null, null);
        JavacTask task = (JavacTask) compiler.getTask(null, files, null, null, null, files.getJavaFileObjects(SOURCE));
        CompilationUnitTree unit = task.parse().iterator().next();
        Mutants all = new Mutants(Files.readString(SOURCE), unit, Trees.instance(task).getSourcePositions());
        all.scan(unit, null);
        Path out = Files.createTempDirectory("mutants");
        List<File> sources = new ArrayList<>(List.of(SOURCE.toFile()));
        for (File file : new File("src/test/java").listFiles()) {
            sources.add(file);
        }
        if (!compile(compiler, out.resolve("tests"), sources)) {
            System.out.println("the project does not compile");
            System.exit(1);
        }
        all.run(compiler, out, tests);
        try (Stream<Path> made = Files.walk(out)) {
            made.sorted(Comparator.reverseOrder()).forEach(path -> path.toFile().delete());
        }
    }

    private void run(JavaCompiler compiler, Path out, String[] tests) throws Exception {
        ExecutorService workers = Executors.newFixedThreadPool(Runtime.getRuntime().availableProcessors());
        List<Future<Boolean>> noticed = new ArrayList<>();
        for (int i = 0; i < breaks.size(); i++) {
            int number = i;
            noticed.add(workers.submit(() -> isNoticed(compiler, out, number, tests)));
        }
        int missed = 0;
        for (int i = 0; i < breaks.size(); i++) {
            if (!noticed.get(i).get()) {
                missed++;
                System.out.println(told(breaks.get(i)));
            }
        }
        workers.shutdown();
        System.out.println(breaks.size() + " breaks, " + missed + " not noticed");
    }

    private String told(Break b) {
        long line = unit.getLineMap().getLineNumber(b.from);
        int start = source.lastIndexOf('\n', (int) b.from) + 1;
        String text = source.substring(start, source.indexOf('\n', (int) b.from)).strip();
        String was = source.substring((int) b.from, (int) b.to).replaceAll("\\s+", " ");
        return "line " + line + ": " + text + "    [" + was + "] -> [" + b.by + "]";
    }

    private static boolean compile(JavaCompiler compiler, Path out, List<File> sources) throws Exception {
        Files.createDirectories(out);
        try (StandardJavaFileManager files = compiler.getStandardFileManager(x -> { }, null, null)) {
            List<String> options = List.of("-d", out.toString(), "-proc:none");
            return compiler.getTask(Writer.nullWriter(), files, x -> { }, options, null,
                files.getJavaFileObjectsFromFiles(sources)).call();
        }
    }

    /** What does not compile is no break. */
    private boolean isNoticed(JavaCompiler compiler, Path out, int number, String[] tests) throws Exception {
        Break b = breaks.get(number);
        Path here = Files.createDirectories(out.resolve("break" + number));
        Path file = here.resolve("ShorthandCourt.java");
        Files.writeString(file, source.substring(0, (int) b.from) + b.by + source.substring((int) b.to));
        if (!compile(compiler, here, List.of(file.toFile()))) {
            return true;
        }
        for (String test : tests) {
            Process run = new ProcessBuilder("java", "-Xshare:auto", "-XX:TieredStopAtLevel=1", "-cp",
                here + File.pathSeparator + out.resolve("tests"), test)
                .redirectOutput(ProcessBuilder.Redirect.DISCARD).redirectError(ProcessBuilder.Redirect.DISCARD).start();
            boolean ended = run.waitFor(SECONDS, TimeUnit.SECONDS);
            run.destroyForcibly();
            if (!ended || run.exitValue() != 0) {
                return true;
            }
        }
        return false;
    }

    private String textOf(Tree tree) {
        return source.substring((int) positions.getStartPosition(unit, tree),
            (int) positions.getEndPosition(unit, tree));
    }

    private void breakAt(Tree tree, String by) {
        breaks.add(new Break(positions.getStartPosition(unit, tree), positions.getEndPosition(unit, tree), by));
    }

    @Override
    public Void visitBinary(BinaryTree tree, Void nothing) {
        long left = positions.getEndPosition(unit, tree.getLeftOperand());
        long right = positions.getStartPosition(unit, tree.getRightOperand());
        String between = source.substring((int) left, (int) right);
        String operator = between.replaceAll("[\\s()]", "");
        for (String other : OPERATORS.getOrDefault(operator, List.of())) {
            long at = left + between.indexOf(operator);
            breaks.add(new Break(at, at + operator.length(), other));
        }
        return super.visitBinary(tree, nothing);
    }

    @Override
    public Void visitLiteral(LiteralTree tree, Void nothing) {
        Object value = tree.getValue();
        if (value instanceof Integer i) {
            breakAt(tree, "(" + (i + 1) + ")");
            breakAt(tree, "(" + (i - 1) + ")");
        } else if (value instanceof Long l) {
            breakAt(tree, "(" + (l + 1) + "L)");
        } else if (value instanceof Character c) {
            breakAt(tree, "(char) " + (c + 1));
            breakAt(tree, "(char) " + (c - 1));
        }
        return super.visitLiteral(tree, nothing);
    }

    @Override
    public Void visitReturn(ReturnTree tree, Void nothing) {
        if (tree.getExpression() instanceof IdentifierTree answer && ANSWERS.contains(answer.getName().toString())) {
            for (String other : ANSWERS) {
                if (!answer.getName().contentEquals(other)) {
                    breakAt(answer, other);
                }
            }
        }
        return super.visitReturn(tree, nothing);
    }

    @Override
    public Void visitIf(IfTree tree, Void nothing) {
        breakAt(tree.getCondition(), "(!" + textOf(tree.getCondition()) + ")");
        return super.visitIf(tree, nothing);
    }

    @Override
    public Void visitConditionalExpression(ConditionalExpressionTree tree, Void nothing) {
        breakAt(tree, textOf(tree.getTrueExpression()));
        breakAt(tree, textOf(tree.getFalseExpression()));
        return super.visitConditionalExpression(tree, nothing);
    }

    @Override
    public Void visitUnary(UnaryTree tree, Void nothing) {
        if (tree.getKind() == Tree.Kind.LOGICAL_COMPLEMENT) {
            breakAt(tree, textOf(tree.getExpression()));
        }
        return super.visitUnary(tree, nothing);
    }

    @Override
    public Void visitExpressionStatement(ExpressionStatementTree tree, Void nothing) {
        breakAt(tree, ";");
        return super.visitExpressionStatement(tree, nothing);
    }
}
