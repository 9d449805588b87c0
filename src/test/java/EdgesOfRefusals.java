import java.util.ArrayList;
import java.util.HashSet;
import java.util.List;
import java.util.Set;

/**
 * REFUSALS: every call, with every mixture of numbers at and beyond the bounds, in states that are new, half full,
 * full and without WORLDS. What is due is told by a table of the document's refusals in their order. For each call and
 * state one call of every mixture of reasons is held against all that an object can be asked for.
 */
final class EdgesOfRefusals {
    private static final int LEAST = Run.LEAST;
    private static final int MOST = Run.MOST;
    private static final String ORDER = "REFUSALS (the call answers the number, the first that fits in the order in which "
        + "it tells them; nothing changes but how many there were):";
    private static final String[] OF_NUMBER = {
        "", "-1 NOBODY: no such HARBOUR, LAW, WORLD, PLAN.", "-2 OTHER: what.", "-3 STATE: it is not as told.",
        "-4 BELOW: a number below the least.", "", "-6 ROOM: a number above the greatest, no room."};
    private static final String[] NAMES = {
        "", "", "harbour", "tell", "move", "set", "undo", "feed", "law", "holds", "rule", "unrule", "inSet", "later",
        "cost", "worst", "best", "byRules", "ruled", "close", "put", "prove", "promise", "corner", "flat", "foreknown",
        "dearest", "who", "none", "year", "out", "dearYears", "drawn", "image", "restore", "count"};
    private static final int[] HARBOURS = {LEAST, -1, 0, 1, 2, 3, 4, MOST};
    private static final int[] PLANS = {LEAST, -1, 0, 1, 4, 12, 16, 64, 255, 256, MOST};
    private static final int[] WORLDS = {LEAST, -1, 0, 1, 2, 4, 6, 8, 15, 16, MOST};
    private static final int[] BITS = {LEAST, -1, 0, 1, 2, MOST};
    private static final int[] DAYS = {LEAST, -1, 0, 9, 10, MOST};
    private static final int[] NONE = {0};
    private static final int[] MOST_TOLD = {99, 99, 999, 99, 99, 9};
    private static final int[] LEAST_SET = {1, 0, 0};
    private static final int[] MOST_SET = {50, 999, 4};

    /** What a state has, as the refusals ask for it. */
    private static final class State {
        int kind;
        int there;
        int laws;
        int years;
        int bytes;
        int ints;
        int changes;
        boolean image;
    }

    private final State state;
    private final int promise;

    private EdgesOfRefusals(State state, int promise) {
        this.state = state;
        this.promise = promise;
    }

    static void all() {
        for (int kind = 0; kind < 5; kind++) {
            for (int promise = 2; promise <= 35; promise++) new EdgesOfRefusals(stateOf(kind), promise).mixAll();
        }
    }

    /** New; harbours 1 and 2 with a bit of all; all four and all full; an IMAGE and nothing else; without WORLDS. */
    private static State stateOf(int kind) {
        State s = new State();
        s.kind = kind;
        s.there = kind == 0 || kind == 3 ? 0 : kind == 1 ? 6 : 15;
        s.laws = kind == 1 ? 2 : kind == 2 ? 12 : kind == 4 ? 1 : 0;
        s.years = kind == 1 ? 3 : kind == 2 ? 60 : 0;
        s.bytes = kind == 1 ? 36 : kind == 2 ? 40 : 0;
        s.ints = kind == 1 ? 11 : kind == 2 || kind == 4 ? 12 : 0;
        s.changes = kind == 1 ? 16 : kind == 2 ? 40 : 0;
        s.image = kind == 2 || kind == 3;
        return s;
    }

    private Run build(String sentence) {
        Run x = Edges.test(promise, sentence);
        for (int h = 0; h < 4; h++) if ((state.there >> h & 1) == 1) x.with("harbour", h);
        if (state.image) x.with("image");
        for (int h = 1; h < 3 && state.changes > 0; h++) {
            int[] numbers = {5 + h, 6 + h, 70 + h, 8 + h, 9 + h, 2 + h};
            for (int what = 0; what < 6; what++) x.with("tell", h, what, numbers[what]);
        }
        for (int n = 12; n < state.changes; n++) x.with("set", n % 3, 1 + n % 4);
        for (int law = 0; law < state.laws; law++) x.law(law, state.kind == 4 ? "n>9" : law == 0 ? "!b3" : "n<4");
        if (state.years > 0) x.with("holds", 1, 0).rule(1, 1, 9, "s1*2+x2").rule(1, 2, 9, "3");
        for (int year = 0; year < state.years; year++) x.with("year", year % 2 * 4);
        x.text("1+1+1+1+1+1+1+1+1+1+1+1+1+1+1+1+1+1+1+1-".substring(0, state.bytes));
        for (int i = 0; i < state.ints; i++) x.with("put", 3 * i);
        return x;
    }

    private boolean isHarbour(int h) {
        return h >= 0 && h <= 3 && (state.there >> h & 1) == 1;
    }

    private boolean isWorld(int world) {
        return world >= 0 && world <= 15 && (world & ~state.there) == 0;
    }

    private boolean isPlan(int plan) {
        if (plan < 0 || plan > 255) return false;
        for (int h = 0; h < 4; h++) if (plan / (1 << 2 * h) % 4 > 0 && !isHarbour(h)) return false;
        return true;
    }

    /** The reasons to refuse, in the document's order. */
    private List<Integer> reasons(int a, int b, int c) {
        List<Integer> all = new ArrayList<>();
        switch (promise) {
            case 2: add(all, -1, a < 0 || a > 3); add(all, -3, isHarbour(a)); break;
            case 3:
                add(all, -1, !isHarbour(a));
                add(all, -2, b < 0 || b > 5);
                add(all, -4, c < 0);
                add(all, -6, c > (b < 0 || b > 5 ? 999 : MOST_TOLD[b]));
                break;
            case 4: add(all, -1, !isHarbour(a) || !isHarbour(b) || a == b); add(all, -4, c < 0); add(all, -6, c > 99); break;
            case 5:
                add(all, -2, a < 0 || a > 2);
                add(all, -4, b < (a < 0 || a > 2 ? 0 : LEAST_SET[a]));
                add(all, -6, b > (a < 0 || a > 2 ? 999 : MOST_SET[a]));
                break;
            case 6: add(all, -3, state.changes == 0); break;
            case 7: add(all, -4, a < 1); add(all, -6, a > 8 || state.bytes + Math.max(1, a) > 40); break;
            case 8: add(all, -6, state.laws == 12); break;
            case 9: add(all, -1, a < 0 || a >= state.laws); break;
            case 10: add(all, -1, !isHarbour(a)); add(all, -4, b < 0); add(all, -6, b > 9); break;
            case 11: add(all, -1, !isHarbour(a)); break;
            case 12: add(all, -1, a < 0 || a > 15); break;
            case 13: case 14: case 17: add(all, -1, !isPlan(a) || !isWorld(b)); break;
            case 15: case 18: case 27: add(all, -1, !isPlan(a)); add(all, -2, b != 0 && b != 1); break;
            case 16: add(all, -2, a != 0 && a != 1); break;
            default: laterReasons(all, a, b, c);
        }
        return all;
    }

    private void laterReasons(List<Integer> all, int a, int b, int c) {
        switch (promise) {
            case 19: add(all, -2, b < 0 || b > 5); add(all, -4, a < 1); add(all, -6, a > 99); break;
            case 20: add(all, -6, state.ints == 12); break;
            case 21: add(all, -1, !isPlan(a) || !isWorld(b)); add(all, -3, state.ints != 12); break;
            case 22: add(all, -1, !isPlan(a) || !isWorld(c)); add(all, -4, b < 0); add(all, -6, b > 9); break;
            case 23: add(all, -4, a < 0); add(all, -6, a > 4); break;
            case 25: add(all, -1, !isHarbour(a)); add(all, -2, b != 0 && b != 1); break;
            case 28: add(all, -2, b != 0 && b != 1); add(all, -4, a < 0); add(all, -6, a > 99999); break;
            case 29: add(all, -1, !isWorld(a)); add(all, -6, state.years == 60); break;
            case 31: add(all, -1, !isPlan(a)); break;
            case 32: add(all, -4, a < 0); add(all, -6, a > 60); break;
            case 34: add(all, -3, !state.image); break;
            default: break;
        }
    }

    private static void add(List<Integer> all, int number, boolean holds) {
        if (holds) all.add(number);
    }

    /** The numbers that are tried at each place of the call; none where it takes none. */
    private int[][] tried() {
        switch (promise) {
            case 2: case 11: return new int[][] {HARBOURS};
            case 3: return new int[][] {HARBOURS, {LEAST, -1, 0, 1, 2, 3, 4, 5, 6, MOST}, {LEAST, -1, 0, 9, 10, 99, 100, 999, 1000, MOST}};
            case 4: return new int[][] {HARBOURS, HARBOURS, {LEAST, -1, 0, 99, 100, MOST}};
            case 5: return new int[][] {{LEAST, -1, 0, 1, 2, 3, MOST}, {LEAST, -1, 0, 1, 4, 5, 50, 51, 999, 1000, MOST}};
            case 7: return new int[][] {{LEAST, -1, 0, 1, 4, 5, 8, 9, 40, 41, MOST}, {-1, 0, 'b'}};
            case 9: return new int[][] {{LEAST, -1, 0, 1, 2, 11, 12, MOST}, {0, 1}};
            case 10: return new int[][] {HARBOURS, DAYS};
            case 12: case 29: return new int[][] {WORLDS};
            case 13: case 14: case 17: case 21: return new int[][] {PLANS, WORLDS};
            case 15: case 18: case 27: return new int[][] {PLANS, BITS};
            case 16: return new int[][] {BITS};
            case 19: return new int[][] {{LEAST, -1, 0, 1, 99, 100, MOST}, {LEAST, -1, 0, 1, 2, 3, 4, 5, 6, MOST}};
            case 20: return new int[][] {{LEAST, -1, 0, 9999, 10000, MOST}};
            case 22: return new int[][] {PLANS, DAYS, WORLDS};
            case 23: return new int[][] {{LEAST, -1, 0, 4, 5, MOST}};
            case 25: return new int[][] {HARBOURS, BITS};
            case 28: return new int[][] {{LEAST, -1, 0, 99999, 100000, MOST}, BITS};
            case 31: return new int[][] {PLANS};
            case 32: return new int[][] {{LEAST, -1, 0, 60, 61, MOST}};
            case 35: return new int[][] {{LEAST, -1, 0, 8, 9, 10, 11, 16, 17, MOST}};
            default: return new int[0][];
        }
    }

    private void mixAll() {
        int[][] tried = tried();
        Set<List<Integer>> seen = new HashSet<>();
        for (int a : tried.length > 0 ? tried[0] : NONE) {
            for (int b : tried.length > 1 ? tried[1] : NONE) {
                for (int c : tried.length > 2 ? tried[2] : NONE) {
                    long[] with = new long[tried.length];
                    int[] all = {a, b, c};
                    for (int i = 0; i < with.length; i++) with[i] = all[i];
                    List<Integer> reasons = reasons(a, b, c);
                    if (reasons.isEmpty()) allowed(with);
                    else if (seen.add(reasons)) build(sentence(reasons)).no(reasons.get(0), NAMES[promise], with);
                    else refused(reasons, with);
                }
            }
        }
    }

    private static String sentence(List<Integer> reasons) {
        return reasons.size() == 1 ? OF_NUMBER[-reasons.get(0)] : ORDER;
    }

    private void refused(List<Integer> reasons, long[] with) {
        int number = reasons.get(0);
        Run x = build(sentence(reasons));
        int[] before = counts(x);
        x.due(number, NAMES[promise], with);
        before[8 - number]++;
        for (int i = 0; i < before.length; i++) x.due(before[i], "count", i < 9 ? i : i + 2);
    }

    /** Counts 0 .. 8 and, from place 9 on, REFUSALS -1 .. -6. */
    private static int[] counts(Run x) {
        int[] all = new int[15];
        for (int i = 0; i < 15; i++) all[i] = x.get("count", i < 9 ? i : i + 2);
        return all;
    }

    private void allowed(long[] with) {
        Run x = build(ORDER);
        int[] before = counts(x);
        int got = x.get(NAMES[promise], with);
        x.that("is not refused: " + new Call(NAMES[promise], with), got < -6 || got >= 0);
        for (int i = 9; i < 15; i++) x.due(before[i], "count", i + 2);
    }
}
