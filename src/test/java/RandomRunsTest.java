import java.nio.charset.StandardCharsets;
import java.util.Random;

/** Random runs of calls, each answer held against the plain model's. The seeds are fixed: every run is the same. */
final class RandomRunsTest {
    private static final int RUNS = 160;
    private static final int CALLS = 420;
    private static final int[] MOST = {99, 99, 999, 99, 99, 9};

    private final Checks checks;
    private final Random random;
    private final FerryPlans x = new FerryPlans();
    private final PlainModel model = new PlainModel();
    private final int run;
    private final int size;
    private final int harbours;
    private int calls = 0;

    private RandomRunsTest(Checks checks, int run) {
        this.checks = checks;
        this.run = run;
        this.random = new Random(7919L * run + 11);
        this.size = run % 3;
        this.harbours = 1 + (run / 3) % 4;
    }

    public static void main(String[] args) {
        Checks checks = new Checks("RandomRunsTest");
        int runs = args.length > 0 ? Integer.parseInt(args[0]) : RUNS;
        int first = args.length > 1 ? Integer.parseInt(args[1]) : 0;
        for (int run = first; run < first + runs; run++) new RandomRunsTest(checks, run).go();
        checks.end();
    }

    private void due(String call, int got, int want) {
        calls++;
        checks.due("run " + run + ", call " + calls + ": " + call, got, want);
    }

    private void go() {
        if (run % 8 == 7) {
            for (int i = 0; i < 12; i++) build();
        } else {
            buildAll();
        }
        while (calls < CALLS) {
            int changes = random.nextInt(6);
            for (int i = 0; i < changes; i++) build();
            // A set that is empty hides most answers: mostly the laws that empty it are let go.
            for (int law = model.count(1) - 1; law >= 0 && model.count(4) == 0 && below(5) > 0; law--) {
                due("holds(" + law + ", false)", x.holds(law, false), model.holds(law, false));
            }
            int asks = 3 + random.nextInt(12);
            for (int i = 0; i < asks; i++) ask();
        }
        for (int what = -1; what < 19; what++) due("count(" + what + ")", x.count(what), model.count(what));
    }

    private void buildAll() {
        int step = harbours == 2 ? 2 : 1;
        for (int h = 0; h < 4; h++) {
            if (h % step != 0 || h / step >= harbours) continue;
            due("harbour(" + h + ")", x.harbour(h), model.harbour(h));
            for (int what = 0; what < 6; what++) {
                int v = value(what == 2 ? 300 : MOST[what]);
                due("tell(" + h + ", " + what + ", " + v + ")", x.tell(h, what, v), model.tell(h, what, v));
            }
        }
        for (int from = 0; from < 4; from++) {
            for (int to = 0; to < 4; to++) {
                int v = value(60);
                due("move(" + from + ", " + to + ", " + v + ")", x.move(from, to, v), model.move(from, to, v));
            }
        }
        int carries = size == 0 ? 1 + below(4) : 1 + below(50);
        due("set(0, " + carries + ")", x.set(0, carries), model.set(0, carries));
    }

    private int below(int n) {
        return random.nextInt(n);
    }

    private boolean seldom() {
        return below(12) == 0;
    }

    private int oneHarbour() {
        return below(30) == 0 ? below(7) - 2 : below(harbours) * (harbours == 2 ? 2 : 1);
    }

    private int plan() {
        if (below(30) == 0) return below(300) - 20;
        int plan = 0;
        for (int h = 0; h < 4; h++) if (below(5) > 0) plan |= below(4) << 2 * h;
        int step = harbours == 2 ? 2 : 1;
        for (int h = 0; h < 4; h++) if (h % step != 0 || h / step >= harbours) plan &= ~(3 << 2 * h);
        return plan;
    }

    private int world() {
        if (below(30) == 0) return below(20) - 2;
        int mask = harbours == 2 ? 5 : (1 << harbours) - 1;
        return below(16) & mask;
    }

    private int value(int most) {
        if (below(40) == 0) return below(2) == 0 ? -1 - below(3) : most + 1 + below(3);
        if (below(20) == 0) return most;
        if (size == 0) return below(Math.min(most, 6) + 1);
        if (size == 1) return below(most / 3 + 1);
        return below(most + 1);
    }

    private int what(int many) {
        return below(30) == 0 ? below(many + 4) - 2 : below(many);
    }

    private void build() {
        int kind = below(30);
        if (kind < 2) {
            int h = oneHarbour();
            due("harbour(" + h + ")", x.harbour(h), model.harbour(h));
        } else if (kind < 14) {
            int h = oneHarbour();
            int what = what(6);
            int v = what >= 0 && what < 6 ? value(MOST[what]) : below(4);
            due("tell(" + h + ", " + what + ", " + v + ")", x.tell(h, what, v), model.tell(h, what, v));
        } else if (kind < 18) {
            int from = oneHarbour();
            int to = oneHarbour();
            int v = value(99);
            due("move(" + from + ", " + to + ", " + v + ")", x.move(from, to, v), model.move(from, to, v));
        } else if (kind < 20) {
            int what = what(3);
            int v = what == 0 ? value(50) : what == 1 ? value(999) : below(6) - (seldom() ? 1 : 0);
            due("set(" + what + ", " + v + ")", x.set(what, v), model.set(what, v));
        } else if (kind < 22) {
            due("undo()", x.undo(), model.undo());
        } else if (kind < 24) {
            feed(test(0));
            due("law()", x.law(), model.law());
        } else if (kind < 27) {
            feed(sum(0));
            int h = oneHarbour();
            int day = seldom() ? below(14) - 2 : 3 + below(7);
            due("rule(" + h + ", " + day + ")", x.rule(h, day), model.rule(h, day));
        } else {
            buildSeldom();
        }
    }

    private void buildSeldom() {
        int kind = below(10);
        if (kind < 4) {
            int law = seldom() ? below(14) - 1 : below(model.count(1) + 1);
            boolean on = below(2) == 0;
            due("holds(" + law + ", " + on + ")", x.holds(law, on), model.holds(law, on));
        } else if (kind < 5) {
            int h = oneHarbour();
            due("unrule(" + h + ")", x.unrule(h), model.unrule(h));
        } else if (kind < 8) {
            int many = seldom() ? 15 : 2;
            for (int i = 0; i < many; i++) {
                int world = world();
                due("year(" + world + ")", x.year(world), model.year(world));
            }
        } else if (kind < 9) {
            due("image()", x.image(), model.image());
        } else {
            due("restore()", x.restore(), model.restore());
        }
    }

    private void feed(String text) {
        StringBuilder s = new StringBuilder(text);
        if (below(20) < 5 && s.length() > 0) {
            String signs = "!()|&bn<=>0123456789+-*xs\0";
            char c = signs.charAt(below(signs.length()));
            int at = below(s.length());
            if (below(3) == 0) s.deleteCharAt(at);
            else if (below(2) == 0) s.insert(at, c);
            else s.setCharAt(at, below(10) == 0 ? (char) below(256) : c);
        }
        byte[] bytes = s.toString().getBytes(StandardCharsets.ISO_8859_1);
        for (int start = 0; start < bytes.length; ) {
            int n = Math.min(1 + below(8), bytes.length - start);
            long packed = Checks.packed(bytes, start, n);
            if (n < 8) packed |= (long) below(256) << 8 * n;
            due("feed(" + n + ", " + packed + ")", x.feed(n, packed), model.feed(n, packed));
            start += n;
            if (below(60) == 0) {
                int odd = below(12) - 2;
                due("feed(" + odd + ", 1)", x.feed(odd, 1), model.feed(odd, 1));
            }
        }
    }

    private String test(int deep) {
        StringBuilder s = new StringBuilder(term(deep));
        while (below(3) == 0) s.append('|').append(term(deep));
        return s.toString();
    }

    private String term(int deep) {
        StringBuilder s = new StringBuilder(part(deep));
        while (below(4) == 0) s.append('&').append(part(deep));
        return s.toString();
    }

    private String part(int deep) {
        int kind = below(10);
        if (kind < 2 && deep < 5) return "!" + part(deep + 1);
        if (kind < 3 && deep < 5) return "(" + test(deep + 1) + ")";
        if (kind < 7) return "b" + (seldom() ? below(10) : below(4));
        return "n" + "<=>".charAt(below(3)) + (seldom() ? below(10) : below(5));
    }

    private String sum(int deep) {
        StringBuilder s = new StringBuilder(product(deep));
        while (below(3) == 0) s.append(below(3) == 0 ? '-' : '+').append(product(deep));
        return s.toString();
    }

    private String product(int deep) {
        StringBuilder s = new StringBuilder(unit(deep));
        while (below(3) == 0) s.append('*').append(unit(deep));
        return s.toString();
    }

    private String unit(int deep) {
        int kind = below(10);
        if (kind < 2 && deep < 5) return "(" + sum(deep + 1) + ")";
        if (kind < 4) return "x" + (seldom() ? below(10) : below(4));
        if (kind < 7) return "s" + (seldom() ? below(10) : oneHarbour() & 3);
        return "" + (seldom() ? 900 + below(200) : below(30));
    }

    private void ask() {
        int plan = plan();
        int world = world();
        int what = what(2);
        int kind = below(22);
        String pw = "(" + plan + ", " + world + ")";
        String pq = "(" + plan + ", " + what + ")";
        switch (kind) {
            case 0: due("inSet(" + world + ")", x.inSet(world), model.inSet(world)); break;
            case 1: due("later" + pw, x.later(plan, world), model.later(plan, world)); break;
            case 2: due("cost" + pw, x.cost(plan, world), model.cost(plan, world)); break;
            case 3: due("worst" + pq, x.worst(plan, what), model.worst(plan, what)); break;
            case 4: due("best(" + what + ")", x.best(what), model.best(what)); break;
            case 5: due("byRules" + pw, x.byRules(plan, world), model.byRules(plan, world)); break;
            case 6: due("ruled" + pq, x.ruled(plan, what), model.ruled(plan, what)); break;
            case 7: askClose(); break;
            case 8: case 9: askProve(plan, world); break;
            case 10: {
                int day = seldom() ? below(14) - 2 : below(10);
                String call = "promise(" + plan + ", " + day + ", " + world + ")";
                due(call, x.promise(plan, day, world), model.promise(plan, day, world));
                break;
            }
            case 11: {
                int budget = seldom() ? below(8) - 2 : below(5);
                due("corner(" + budget + ")", x.corner(budget), model.corner(budget));
                break;
            }
            case 12: due("flat()", x.flat(), model.flat()); break;
            case 13: {
                int h = oneHarbour();
                due("foreknown(" + h + ", " + what + ")", x.foreknown(h, what), model.foreknown(h, what));
                break;
            }
            case 14: due("dearest()", x.dearest(), model.dearest()); break;
            case 15: due("who" + pq, x.who(plan, what), model.who(plan, what)); break;
            case 16: askNone(what); break;
            case 17: due("out()", x.out(), model.out()); break;
            case 18: due("dearYears(" + plan + ")", x.dearYears(plan), model.dearYears(plan)); break;
            case 19: {
                int n = seldom() ? below(70) - 4 : below(8);
                due("drawn(" + n + ")", x.drawn(n), model.drawn(n));
                break;
            }
            default: {
                int c = below(19) - 1;
                due("count(" + c + ")", x.count(c), model.count(c));
            }
        }
    }

    private void askClose() {
        int n = seldom() ? below(104) - 2 : 1 + below(5);
        int what = what(6);
        due("close(" + n + ", " + what + ")", x.close(n, what), model.close(n, what));
    }

    private void askNone(int what) {
        // Marks near the best are those that a few worlds decide.
        int best = Math.max(0, model.best(1));
        int mark = below(4) == 0 ? below(3000) : best - below(best / 8 + 4);
        if (seldom()) mark = below(2) == 0 ? -1 - below(3) : 99998 + below(4);
        due("none(" + mark + ", " + what + ")", x.none(mark, what), model.none(mark, what));
        x.best(1);
    }

    private void askProve(int plan, int world) {
        int most = below(3) == 0 ? 100 : 30;
        int many = seldom() ? below(14) : 12 - model.count(7);
        boolean bold = below(3) == 0;
        for (int i = 0; i < many; i++) {
            int v = below(i < 4 || bold ? most : 12);
            if (below(150) == 0) v = below(2) == 0 ? -1 : 9999 + below(3);
            due("put(" + v + ")", x.put(v), model.put(v));
        }
        due("prove(" + plan + ", " + world + ")", x.prove(plan, world), model.prove(plan, world));
    }
}
