import java.nio.charset.StandardCharsets;

/** What the tests share: answers that are due, and texts that are fed. */
final class Checks {
    private final String name;
    private int seen = 0;
    private int wrong = 0;

    Checks(String name) {
        this.name = name;
    }

    void due(String call, long got, long want) {
        seen++;
        if (got == want) return;
        wrong++;
        if (wrong <= 40) System.out.println(name + ": " + call + " answered " + got + ", due is " + want);
    }

    void that(String what, boolean holds) {
        due(what, holds ? 1 : 0, 1);
    }

    /** Prints how it went, and ends with exit code 1 if an answer was wrong. */
    void end() {
        System.out.println(name + ": " + seen + " checks, " + wrong + " wrong");
        if (wrong != 0 || seen == 0) System.exit(1);
    }

    /** Feeds a text in pieces of eight bytes. */
    static int feed(FerryPlans x, String text) {
        byte[] bytes = text.getBytes(StandardCharsets.ISO_8859_1);
        int length = 0;
        for (int start = 0; start < bytes.length; start += 8) {
            int n = Math.min(8, bytes.length - start);
            length = x.feed(n, packed(bytes, start, n));
        }
        return length;
    }

    static long packed(byte[] bytes, int start, int n) {
        long value = 0;
        for (int i = 0; i < n; i++) value |= (bytes[start + i] & 255L) << 8 * i;
        return value;
    }

    static int law(FerryPlans x, String text) {
        feed(x, text);
        return x.law();
    }

    static int rule(FerryPlans x, int h, int day, String text) {
        feed(x, text);
        return x.rule(h, day);
    }

    /** All counts that can be asked, in one text: what a refused call must leave as it was, but for its own. */
    static String counts(FerryPlans x) {
        StringBuilder all = new StringBuilder();
        for (int what = 0; what <= 16; what++) all.append(x.count(what)).append(' ');
        return all.toString();
    }
}
