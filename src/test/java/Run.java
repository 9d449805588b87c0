import java.nio.charset.StandardCharsets;
import java.util.ArrayList;
import java.util.List;

/**
 * A test's run of calls on a new object. What was called is kept: a call that must change nothing is made on a second
 * object with the same run behind it, which is then asked for all that there is, as an object without that call is.
 */
final class Run {
    static final int LEAST = Integer.MIN_VALUE;
    static final int MOST = Integer.MAX_VALUE;
    private static final int CALLS_MOST = 512;

    private final String test;
    private final FerryPlans x = new FerryPlans();
    private final List<Call> made = new ArrayList<>();
    private int calls = 0;
    private int[][] calm = null;

    Run(String test) {
        this.test = test;
    }

    private int make(Call call) {
        calls++;
        if (calls > CALLS_MOST) throw new IllegalStateException(test + ": more than 512 calls");
        return call.on(x);
    }

    int get(String name, long... with) {
        Call call = new Call(name, with);
        made.add(call);
        calm = null;
        return make(call);
    }

    /** A call whose answer another test holds. */
    Run with(String name, long... with) {
        get(name, with);
        return this;
    }

    Run due(int want, String name, long... with) {
        int got = get(name, with);
        Edges.due(test, new Call(name, with).toString(), got, want);
        return this;
    }

    void that(String what, boolean holds) {
        Edges.due(test, what, holds ? 1 : 0, 1);
    }

    /** A refused call: it answers the number, and nothing changes but how many of that number there were. */
    Run no(int number, String name, long... with) {
        Call call = new Call(name, with);
        Edges.due(test, call.toString(), make(call), number);
        changes(call, number);
        return this;
    }

    /** A call that only asks: all is as before, REFUSALS too. */
    Run asks(int want, String name, long... with) {
        Call call = new Call(name, with);
        Edges.due(test, call.toString(), make(call), want);
        changes(call, 0);
        return this;
    }

    /** All that THE IMAGE keeps is here as there. */
    Run sameAs(Run other) {
        for (List<Call> calls : List.of(Probes.answers(), Probes.numbers())) {
            FerryPlans here = again();
            FerryPlans there = other.again();
            for (Call call : calls) {
                int want = call.on(there);
                int got = call.on(here);
                if (!Probes.goesOn(call)) Edges.due(test, call + " as the other run has it", got, want);
            }
        }
        return this;
    }

    private FerryPlans again() {
        FerryPlans twin = new FerryPlans();
        for (Call call : made) call.on(twin);
        return twin;
    }

    private void changes(Call call, int number) {
        if (calm == null) {
            calm = new int[Probes.MANY][];
            for (int p = 0; p < Probes.MANY; p++) calm[p] = Probes.ask(p, again());
        }
        for (int p = 0; p < Probes.MANY; p++) {
            if (made.size() + 1 + calm[p].length > CALLS_MOST) throw new IllegalStateException(test + ": a long run");
            FerryPlans twin = again();
            call.on(twin);
            int[] got = Probes.ask(p, twin);
            int own = Probes.placeOfRefusals(p, number);
            for (int i = 0; i < got.length; i++) {
                int want = i == own ? calm[p][i] + 1 : calm[p][i];
                Edges.due(test, Probes.name(p, i) + " after " + call, got[i], want);
            }
        }
    }

    Run harbours(int... all) {
        for (int h : all) with("harbour", h);
        return this;
    }

    /** A harbour with its NEED, MORE, PRICE, DEAR, LIMIT, DAY, as many as are told. */
    Run told(int h, int... numbers) {
        with("harbour", h);
        for (int what = 0; what < numbers.length; what++) with("tell", h, what, numbers[what]);
        return this;
    }

    Run text(String text) {
        byte[] bytes = text.getBytes(StandardCharsets.ISO_8859_1);
        for (int start = 0; start < bytes.length; start += 8) {
            int n = Math.min(8, bytes.length - start);
            with("feed", n, Checks.packed(bytes, start, n));
        }
        return this;
    }

    Run law(int want, String text) {
        text(text);
        Edges.due(test, "law() of \"" + text + "\"", get("law"), want);
        return this;
    }

    Run rule(int want, int h, int day, String text) {
        text(text);
        Edges.due(test, "rule(" + h + ", " + day + ") of \"" + text + "\"", get("rule", h, day), want);
        return this;
    }

    Run row(int... numbers) {
        for (int v : numbers) with("put", v);
        return this;
    }

    /** The worlds of THE SET, as bits. */
    Run set(int want) {
        int bits = 0;
        for (int world = 0; world < 16; world++) bits |= (get("inSet", world) & 1) << world;
        Edges.due(test, "THE SET as bits", bits, want);
        return this;
    }
}
