import java.io.IOException;
import java.nio.file.Files;
import java.nio.file.Path;
import java.util.ArrayList;
import java.util.LinkedHashSet;
import java.util.List;
import java.util.Set;
import java.util.regex.Matcher;
import java.util.regex.Pattern;

/**
 * The tests of edges: each names the promise and the document's own words that it holds. At the end the words are
 * looked for in the document, and each word from its Terms to its last promise must be held by a test.
 */
final class Edges {
    private static final Checks CHECKS = new Checks("EdgesTest");
    private static final Path DOCUMENT = Path.of("../shared/DOC.md");
    private static final int PROMISES = 35;
    private static final Set<String> TESTS = new LinkedHashSet<>();
    private static final List<Object[]> HELD = new ArrayList<>();

    private Edges() {
    }

    /** Begins a test of a promise, with a new object. */
    static Run test(int promise, String sentence) {
        String name = "Promise " + promise + ", \"" + sentence + "\"";
        if (TESTS.add(name)) HELD.add(new Object[] {promise, plain(sentence)});
        return new Run(name);
    }

    static void due(String test, String call, long got, long want) {
        // The name is joined only where it is printed: most answers are as due, and there are many.
        if (got == want) CHECKS.due("", 0, 0);
        else CHECKS.due(test + ": " + call, got, want);
    }

    static void tell() {
        for (String name : TESTS) System.out.println(name);
    }

    static void end() throws IOException {
        if (Files.exists(DOCUMENT)) holdAgainst(plain(Files.readString(DOCUMENT)));
        else System.out.println("EdgesTest: no document here, the tests' sentences are not looked for in it");
        System.out.println("EdgesTest: " + TESTS.size() + " tests of sentences");
        CHECKS.end();
    }

    private static String plain(String text) {
        return text.replaceAll("```\\w*", " ").replaceAll("\\s+", " ").trim();
    }

    private static void holdAgainst(String document) {
        boolean[] held = new boolean[document.length()];
        for (Object[] one : HELD) {
            int promise = (Integer) one[0];
            String sentence = (String) one[1];
            int from = document.indexOf("## Promise " + promise + ":");
            int to = promise < PROMISES ? document.indexOf("## Promise " + (promise + 1) + ":") : document.length();
            int at = from < 0 ? -1 : document.substring(from, Math.max(from, to)).indexOf(sentence);
            at = at >= 0 ? from + at : document.indexOf(sentence);
            CHECKS.that("the document says: " + sentence, at >= 0);
            for (int i = Math.max(0, at); i < at + sentence.length(); i++) held[i] = true;
        }
        for (int promise = 1; promise <= PROMISES; promise++) CHECKS.that("Promise " + promise, hasTest(promise));
        leaveOut(document, held, "## Promise \\d+: \\w+ `[^`]*`:");
        leaveOut(document, held, "## Promise 1: A new object `[^`]*`:");
        leaveOut(document, held, "==== [IV]+\\.");
        tellWhatIsNotHeld(document, held);
    }

    private static boolean hasTest(int promise) {
        for (Object[] one : HELD) if ((Integer) one[0] == promise) return true;
        return false;
    }

    private static void leaveOut(String document, boolean[] held, String what) {
        Matcher found = Pattern.compile(what).matcher(document);
        while (found.find()) for (int i = found.start(); i < found.end(); i++) held[i] = true;
    }

    private static void tellWhatIsNotHeld(String document, boolean[] held) {
        int from = document.indexOf("## Terms") + "## Terms".length();
        int end = document.indexOf("## Not promised");
        for (int i = from; i < end; i++) {
            int start = i;
            while (i < end && !held[i]) i++;
            String words = document.substring(start, i);
            if (words.matches(".*\\w.*")) CHECKS.that("a test holds: " + words, false);
        }
    }
}
