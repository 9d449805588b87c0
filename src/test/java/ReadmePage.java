import java.io.IOException;
import java.nio.file.Files;
import java.nio.file.Path;
import java.util.ArrayList;
import java.util.LinkedHashMap;
import java.util.List;
import java.util.Map;
import java.util.regex.Matcher;
import java.util.regex.Pattern;

/** README.md as the tests read it: its program, and its table of calls. */
final class ReadmePage {
    private static final Path PAGE = Path.of("README.md");
    private static final Pattern ROW = Pattern.compile("(?m)^\\| `(\\w+)\\(([^)]*)\\)` \\|(.*)\\|([-\\d ]*)\\|$");

    /** What the table says of one call. */
    static final class Row {
        final List<String> takes = new ArrayList<>();
        final List<Integer> refusals = new ArrayList<>();
        boolean mayBeNone;
        boolean mayHaveFault;
        boolean mayFail;

        /** Whether the page names this answer for the call. */
        boolean names(int answer) {
            if (answer >= 0 || refusals.contains(answer)) return true;
            if (answer == -9) return mayBeNone;
            if (answer <= -20 && answer >= -60) return mayHaveFault;
            return mayFail && failsAsNamed(-1000 - answer);
        }

        private static boolean failsAsNamed(int what) {
            if (what < 100) return what >= 0 && what <= 11;
            int i = what % 100 / 10;
            int j = what % 10;
            if (what < 200) return i <= 3 && j <= 3 && i != j;
            return what < 400 && i == 0 && j <= 3;
        }
    }

    final String text;
    final Map<String, Row> rows = new LinkedHashMap<>();

    ReadmePage() throws IOException {
        text = Files.readString(PAGE);
        Matcher found = ROW.matcher(text);
        while (found.find()) {
            Row row = new Row();
            for (String one : found.group(2).split(", ")) if (!one.isEmpty()) row.takes.add(one);
            for (String one : found.group(4).trim().split(" ")) if (!one.isEmpty()) row.refusals.add(Integer.parseInt(one));
            row.mayBeNone = found.group(3).contains("; -9");
            row.mayHaveFault = found.group(3).contains("or a FAULT");
            row.mayFail = found.group(3).contains("or what fails");
            rows.put(found.group(1), row);
        }
    }

    String program() {
        Matcher found = Pattern.compile("(?s)```java\n(.*?)```").matcher(text);
        return found.find() ? found.group(1) : "";
    }
}
