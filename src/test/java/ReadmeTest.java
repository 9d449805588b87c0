import java.io.IOException;
import java.lang.reflect.Method;
import java.net.URI;
import java.net.URL;
import java.net.URLClassLoader;
import java.nio.file.Files;
import java.nio.file.Path;
import java.util.ArrayList;
import java.util.Arrays;
import java.util.List;
import java.util.Map;
import java.util.regex.Matcher;
import java.util.regex.Pattern;
import javax.tools.JavaCompiler;
import javax.tools.JavaFileObject;
import javax.tools.SimpleJavaFileObject;
import javax.tools.ToolProvider;

/** README.md says what is so: its program answers as it says, its table has every call with its refusals. */
final class ReadmeTest {
    private static final Checks CHECKS = new Checks("ReadmeTest");
    private static final Path DOCUMENT = Path.of("../shared/DOC.md");
    private static final Pattern ANSWERED = Pattern.compile("(?m)^( +)(x\\.\\w+\\(.*\\)); +// (-?\\d+)(?::.*)?$");
    private static final String NOTED = "    public static final java.util.List<Object[]> SEEN = new java.util.ArrayList<>();\n"
        + "    static void due(String call, int got, int want) { SEEN.add(new Object[] {call, got, want}); }\n";

    private ReadmeTest() {
    }

    public static void main(String[] args) throws IOException, ReflectiveOperationException {
        ReadmePage page = new ReadmePage();
        program(page.program());
        face(page);
        if (Files.exists(DOCUMENT)) document(page, Files.readString(DOCUMENT));
        else System.out.println("ReadmeTest: no document here, the refusals are not looked for in it");
        whatTheIssueAsksFor(page.text);
        CHECKS.end();
    }

    private static void program(String program) throws IOException, ReflectiveOperationException {
        Matcher told = ANSWERED.matcher(program);
        int many = 0;
        StringBuilder noted = new StringBuilder();
        while (told.find()) {
            many++;
            String call = told.group(2);
            String due = told.group(1) + "due(\"" + call + "\", " + call + ", " + told.group(3) + ");";
            told.appendReplacement(noted, Matcher.quoteReplacement(due));
        }
        told.appendTail(noted);
        int calls = 0;
        for (String line : program.split("\n")) if (line.matches(" {8}x\\..*")) calls++;
        CHECKS.due("calls of the program whose answer is told", many, calls);
        for (String name : Arrays.asList("law", "rule", "prove", "undo", "none")) {
            CHECKS.that("the program calls " + name, program.contains("x." + name + "("));
        }
        int open = noted.indexOf("{\n") + 2;
        run(noted.insert(open, NOTED).toString(), many);
    }

    private static void run(String source, int many) throws IOException, ReflectiveOperationException {
        JavaCompiler javac = ToolProvider.getSystemJavaCompiler();
        Path out = Files.createTempDirectory("readme");
        JavaFileObject file = new SimpleJavaFileObject(URI.create("string:///Example.java"), JavaFileObject.Kind.SOURCE) {
            @Override
            public CharSequence getCharContent(boolean ignored) {
                return source;
            }
        };
        List<String> with = List.of("-d", out.toString(), "-cp", System.getProperty("java.class.path"));
        boolean compiled = javac.getTask(null, null, null, with, null, List.of(file)).call();
        CHECKS.that("the program compiles", compiled);
        if (!compiled) return;
        try (URLClassLoader loader = new URLClassLoader(new URL[] {out.toUri().toURL()})) {
            Class<?> example = loader.loadClass("Example");
            example.getMethod("main", String[].class).invoke(null, (Object) new String[0]);
            List<?> seen = (List<?>) example.getField("SEEN").get(null);
            CHECKS.due("calls that were made", seen.size(), many);
            for (Object one : seen) {
                Object[] row = (Object[]) one;
                CHECKS.due((String) row[0], (Integer) row[1], (Integer) row[2]);
            }
        }
        for (String name : List.of("Example.class")) Files.deleteIfExists(out.resolve(name));
        Files.deleteIfExists(out);
    }

    /** Every method of the class stands in the table once, with as many arguments as it takes. */
    private static void face(ReadmePage page) {
        List<String> names = new ArrayList<>();
        for (Method m : FerryPlans.class.getDeclaredMethods()) {
            if (!java.lang.reflect.Modifier.isPublic(m.getModifiers())) continue;
            names.add(m.getName());
            ReadmePage.Row row = page.rows.get(m.getName());
            CHECKS.that("the table has " + m.getName(), row != null);
            if (row != null) CHECKS.due("arguments of " + m.getName(), row.takes.size(), m.getParameterCount());
        }
        for (String name : page.rows.keySet()) CHECKS.that("the class has " + name, names.contains(name));
    }

    /** The calls stand in the document's order, each with the refusals that its promise names, in their order. */
    private static void document(ReadmePage page, String document) {
        String plain = document.replaceAll("\\s+", " ").replace("REFUSALS -1 .. -6", "REFUSALS");
        Matcher promise = Pattern.compile("## Promise \\d+: (\\w+) `int [^`]*`: (.*?)(?= ##|$)").matcher(plain);
        List<String> order = new ArrayList<>();
        while (promise.find()) {
            String name = promise.group(1);
            order.add(name);
            ReadmePage.Row row = page.rows.get(name);
            if (row == null) continue;
            List<Integer> refusals = new ArrayList<>();
            Matcher number = Pattern.compile("(?<![\\w.])-(\\d)(?!\\d)").matcher(promise.group(2));
            while (number.find()) if (!number.group(1).equals("9")) refusals.add(-Integer.parseInt(number.group(1)));
            CHECKS.that("refusals of " + name + ": " + refusals + ", the page: " + row.refusals, refusals.equals(row.refusals));
            CHECKS.that("-9 of " + name, row.mayBeNone == promise.group(2).contains("-9"));
            CHECKS.that("FAULT of " + name, row.mayHaveFault == promise.group(2).contains("FAULT"));
            CHECKS.that("what fails in " + name, row.mayFail == promise.group(2).contains("-1000"));
        }
        CHECKS.that("the document's order " + order, order.equals(new ArrayList<>(page.rows.keySet())));
    }

    private static void whatTheIssueAsksFor(String text) {
        Map<String, String> asked = Map.of("how it is made", "new FerryPlans()", "for how many calls", "at most 512 calls",
            "none", "-9, none.", "refusals", "**Refusals.**", "faults", "**Faults.**", "proofs", "**What fails in a proof.**",
            "how tests are run", "bash .ci/run");
        for (Map.Entry<String, String> one : asked.entrySet()) {
            CHECKS.that("the page tells " + one.getKey(), text.contains(one.getValue()));
        }
        for (int number : new int[] {-1, -2, -3, -4, -6}) {
            CHECKS.that("the page tells " + number, Pattern.compile("(?m)^\\| " + number + " \\| [A-Z]+:").matcher(text).find());
        }
        for (String file : testsOf(Path.of("src/test/java"))) CHECKS.that("the page tells of " + file, text.contains("`" + file + "`"));
    }

    private static List<String> testsOf(Path dir) {
        String[] files = dir.toFile().list((d, name) -> name.endsWith("Test.java"));
        List<String> names = new ArrayList<>();
        if (files != null) for (String file : files) names.add(file.replace(".java", ""));
        CHECKS.that("there are tests", !names.isEmpty());
        return names;
    }
}
