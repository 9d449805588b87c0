import com.sun.source.tree.CompilationUnitTree;
import com.sun.source.util.JavacTask;
import java.io.IOException;
import java.nio.file.Files;
import java.nio.file.Path;
import java.util.List;
import javax.tools.JavaCompiler;
import javax.tools.StandardJavaFileManager;
import javax.tools.ToolProvider;

/** The rules of LANGUAGE.md, held over the compiler's own tree of the class; and that SourceRules sees what breaks them. */
final class SourceTest {
    private static final Checks CHECKS = new Checks("SourceTest");
    private static final Path SOURCE = Path.of("src/main/java/FerryPlans.java");

    /** A rule's number, and what stands for a moment at the end of the class and breaks it. */
    private static final String[][] BREAKS = {
        {"1", "int seen() { return 1; }"},
        {"1", "public int more = 0;"},
        {"2", "class Inner { }"},
        {"2", "private int f() { java.util.function.IntSupplier s = () -> 1; return s.getAsInt(); }"},
        {"2", "private int f() { class Own { } return 1; }"},
        {"2", "private int f() { Object o = new Object() { }; return 1; }"},
        {"3", "private int f(long v) { java.util.Map<Integer, Integer> m = null; return 1; }"},
        {"3", "private int f(int[][][] v) { return 1; }"},
        {"4", "private int f(int v) { return Math.addExact(v, 1); }"},
        {"4", "private int f(String s) { return s.hashCode(); }"},
        {"4", "private int f(int[] v) { Arrays.sort(v); return 1; }"},
        {"4", "private long f() { return System.nanoTime(); }"},
        {"5", "private static int many = 0;"},
        {"5", "private void f() { GREATEST[0] = 1; }"},
        {"5", "private static final int[] ROWS = new int[4];"},
        {"6", "private int f(int v) { if (v == 1) throw new IllegalArgumentException(); return 1; }"},
        {"6", "private int f(int v) { try { return v; } finally { told.laws = 0; } }"},
        {"6", "private int f(int v) { assert v > 0; return 1; }"},
        {"7", "private int f(int v, int w) { return v / w; }"},
        {"7", "private int f(int v, int w) { v %= w; return v; }"},
        {"8", "private int f(int v) { return v > 0 ? f(v - 1) : 0; }"},
        {"8", "private int f(int v) { return g(v); } private int g(int v) { return f(v); }"},
        {"9", "private int f(int v) { while (v > 0) v--; return v; }"},
        {"9", "private int f(int v) { for (int i = 0; ; i++) if (i > v) return i; }"},
        {"9", "private int f(int v) { for (int i = 0; i < 9; i++) i = v; return v; }"},
        {"9", "private int f(int v) { for (int i = 0; i < 9 || v > 0; i++) v--; return v; }"},
        {"9", "private int f(int v) { for (int i = 0; i < 9; i--) v++; return v; }"},
        {"10", "private String f(String s) { return s + 'a'; }"},
        {"11", "private int f(int a, int b, int c, int d, int e, int g, int h, int i) { return 1; }"},
        {"11", "private int f() { return dearest() + 1; }"},
        {"11", "private static final class Thirteenth { }"},
        {"12", "private int f() { int[] v = new int[9]; return v[0]; }"},
        {"12", "private int f() { Told more = new Told(); return more.laws; }"},
    };

    private SourceTest() {
    }

    public static void main(String[] args) throws IOException {
        String source = Files.readString(SOURCE);
        for (String broken : brokenIn(source)) CHECKS.that(broken, false);
        CHECKS.that("the class was read", !source.isEmpty());
        for (String[] one : BREAKS) {
            int end = source.lastIndexOf('}');
            List<String> seen = brokenIn(source.substring(0, end) + "    " + one[1] + "\n}\n");
            boolean found = false;
            for (String broken : seen) found |= broken.startsWith("rule " + one[0] + ":");
            CHECKS.that("rule " + one[0] + " is seen to be broken by: " + one[1] + " " + seen, found);
        }
        CHECKS.end();
    }

    /** What breaks a rule in a source, each with the rule's number and its line. */
    private static List<String> brokenIn(String source) throws IOException {
        JavaCompiler javac = ToolProvider.getSystemJavaCompiler();
        Path dir = Files.createTempDirectory("source");
        Path file = dir.resolve("FerryPlans.java");
        Files.writeString(file, source);
        try (StandardJavaFileManager files = javac.getStandardFileManager(null, null, null)) {
            // What a broken source is warned of is not of interest here.
            JavacTask task = (JavacTask) javac.getTask(null, files, told -> { }, List.of("-proc:none"), null,
                files.getJavaFileObjects(file.toFile()));
            CompilationUnitTree unit = task.parse().iterator().next();
            task.analyze();
            return new SourceRules(task, unit).broken();
        } finally {
            Files.delete(file);
            Files.delete(dir);
        }
    }
}
