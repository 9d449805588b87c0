import java.io.IOException;
import java.util.ArrayList;
import java.util.List;
import java.util.Random;

/**
 * Calls with wild numbers in any order, up to the 512th of each object: none throws, none answers what README.md does
 * not name for it, a refused one is counted, and the same calls give the same answers. The seeds are fixed.
 */
final class AnswersTest {
    private static final Checks CHECKS = new Checks("AnswersTest");
    private static final int OBJECTS = 260;
    private static final int CALLS_MOST = 512;
    private static final int[] EDGES = {
        Integer.MIN_VALUE, Integer.MIN_VALUE + 1, -1000, -1, 0, 1, 2, 3, 4, 5, 7, 8, 9, 10, 11, 12, 13, 15, 16, 40, 41, 50, 51,
        59, 60, 61, 98, 99, 100, 101, 255, 256, 998, 999, 1000, 9999, 10000, 99999, 100000, 65536, Integer.MAX_VALUE - 1,
        Integer.MAX_VALUE};
    private static final String SIGNS = "!()|&bn<=>0123456789+-*xs";
    private static final String[] TEXTS = {"b0", "n<3", "!b1", "s0*9", "x1+s1", "(x0+2)*s2", "999*999*999*999", "0-5", "b9|n=2"};

    private final Random random;
    private final List<Call> made = new ArrayList<>();

    private AnswersTest(int seed) {
        random = new Random(104729L * seed + 3);
    }

    public static void main(String[] args) throws IOException {
        ReadmePage page = new ReadmePage();
        List<String> names = new ArrayList<>(page.rows.keySet());
        for (int seed = 0; seed < OBJECTS; seed++) new AnswersTest(seed).go(page, names, seed);
        CHECKS.end();
    }

    private void go(ReadmePage page, List<String> names, int seed) {
        FerryPlans x = new FerryPlans();
        int[] refused = new int[7];
        int[] answers = new int[CALLS_MOST];
        for (int n = 0; n < CALLS_MOST; n++) {
            Call call = n > CALLS_MOST - 7 ? new Call("count", CALLS_MOST - n + 10) : next(page, names, seed);
            made.add(call);
            String name = call.toString().substring(0, call.toString().indexOf('('));
            int answer = answerOf(call, x, n);
            answers[n] = answer;
            CHECKS.that(call + " answered " + answer + ", which README.md does not name", page.rows.get(name).names(answer));
            if (answer < 0 && answer >= -6) refused[-answer]++;
            if (n > CALLS_MOST - 7) CHECKS.due("object " + seed + ": " + call, answer, refused[CALLS_MOST - n]);
        }
        FerryPlans again = new FerryPlans();
        for (int n = 0; n < CALLS_MOST; n++) CHECKS.due(made.get(n) + " again", answerOf(made.get(n), again, n), answers[n]);
    }

    private static int answerOf(Call call, FerryPlans x, int n) {
        try {
            return call.on(x);
        } catch (RuntimeException thrown) {
            CHECKS.that("call " + n + ", " + call + " threw " + thrown, false);
            return 0;
        }
    }

    /** Every fifth object has nothing but wild numbers; the others mostly have such as lead somewhere. */
    private Call next(ReadmePage page, List<String> names, int seed) {
        boolean wild = seed % 5 == 4 || random.nextInt(8) == 0;
        String name = names.get(random.nextInt(names.size()));
        if (!wild && made.size() < 60 && random.nextInt(3) > 0) name = random.nextInt(4) == 0 ? "harbour" : "tell";
        else name = favoured(name, names.get(seed % names.size()));
        List<String> takes = page.rows.get(name).takes;
        long[] with = new long[takes.size()];
        for (int i = 0; i < with.length; i++) with[i] = wild ? wildNumber() : tameNumber(takes.get(i), name);
        if (name.equals("feed")) feed(with, wild);
        if (name.equals("holds")) with[1] = with[1] & 1;
        return new Call(name, with);
    }

    /** A call that an object makes so often that what it fills gets full; a LAW or a RULE comes behind each TEXT. */
    private String favoured(String name, String favourite) {
        boolean reads = favourite.equals("law") || favourite.equals("rule");
        if (reads && !made.isEmpty() && made.get(made.size() - 1).toString().startsWith("feed")) return favourite;
        if (random.nextInt(3) > 0) return name;
        return reads ? "feed" : favourite;
    }

    private int wildNumber() {
        return random.nextInt(3) == 0 ? random.nextInt() : EDGES[random.nextInt(EDGES.length)];
    }

    private int tameNumber(String takes, String name) {
        switch (takes) {
            case "h": case "from": case "to": return random.nextInt(4);
            case "p": return random.nextInt(256);
            case "w": return random.nextInt(16);
            case "what": return random.nextInt(name.equals("tell") || name.equals("close") ? 6 : name.equals("count") ? 17 : 2);
            case "day": return random.nextInt(10);
            case "budget": return random.nextInt(5);
            case "mark": return random.nextInt(4000);
            default: return random.nextInt(name.equals("put") ? 30 : 12);
        }
    }

    private void feed(long[] with, boolean wild) {
        if (wild) {
            with[1] = random.nextLong();
            return;
        }
        byte[] bytes = TEXTS[random.nextInt(TEXTS.length)].getBytes(java.nio.charset.StandardCharsets.ISO_8859_1);
        if (random.nextInt(4) == 0) bytes[random.nextInt(bytes.length)] = (byte) SIGNS.charAt(random.nextInt(SIGNS.length()));
        with[0] = Math.min(8, bytes.length);
        with[1] = Checks.packed(bytes, 0, (int) with[0]);
    }
}
