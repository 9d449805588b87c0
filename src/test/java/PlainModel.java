import java.util.ArrayDeque;
import java.util.ArrayList;
import java.util.Arrays;
import java.util.HashMap;
import java.util.List;
import java.util.Map;
import java.util.TreeSet;

/**
 * The document in its plainest form, written apart from the class and in other ways (lists and maps, texts read
 * anew for every world, a general flow for LATER, no pruning), to be held against it in random runs.
 */
final class PlainModel {
    /** What the image keeps. */
    static final class World0 {
        TreeSet<Integer> harbours = new TreeSet<>();
        Map<String, Integer> numbers = new HashMap<>();
        List<String> laws = new ArrayList<>();
        List<Boolean> holding = new ArrayList<>();
        Map<Integer, String> rules = new HashMap<>();
        List<Integer> years = new ArrayList<>();

        World0 copy() {
            World0 c = new World0();
            c.harbours.addAll(harbours);
            c.numbers.putAll(numbers);
            c.laws.addAll(laws);
            c.holding.addAll(holding);
            c.rules.putAll(rules);
            c.years.addAll(years);
            return c;
        }
    }

    private static final String[] KINDS = {"NEED", "MORE", "PRICE", "DEAR", "LIMIT", "DAY"};
    private static final int[] KINDS_MOST = {99, 99, 999, 99, 99, 9};

    private World0 now = new World0();
    private World0 image = null;
    private final ArrayDeque<Object[]> changes = new ArrayDeque<>();
    private String text = "";
    private final List<Integer> row = new ArrayList<>();
    private final int[] refused = new int[17];
    private final Map<Integer, Integer> costs = new HashMap<>();

    private int no(int number) {
        refused[-number]++;
        return number;
    }

    private int number(String key) {
        Integer v = now.numbers.get(key);
        if (v != null) return v;
        if (key.startsWith("MOVE")) return 99;
        if (key.equals("CARRIES")) return 10;
        if (key.equals("LEFT")) return 100;
        if (key.equals("BUDGET")) return 4;
        return 0;
    }

    private int of(String kind, int h) {
        return number(kind + h);
    }

    private int change(String key, int v, int least, int most) {
        if (v < least) return no(-4);
        if (v > most) return no(-6);
        int was = number(key);
        changes.addLast(new Object[] {key, was});
        if (changes.size() > 40) changes.removeFirst();
        now.numbers.put(key, v);
        costs.clear();
        return was;
    }

    int harbour(int h) {
        if (h < 0 || h > 3) return no(-1);
        if (!now.harbours.add(h)) return no(-3);
        costs.clear();
        return 1;
    }

    int tell(int h, int what, int v) {
        if (!now.harbours.contains(h)) return no(-1);
        if (what < 0 || what > 5) return no(-2);
        return change(KINDS[what] + h, v, 0, KINDS_MOST[what]);
    }

    int move(int from, int to, int v) {
        if (!now.harbours.contains(from) || !now.harbours.contains(to) || from == to) return no(-1);
        return change("MOVE" + from + ">" + to, v, 0, 99);
    }

    int set(int what, int v) {
        switch (what) {
            case 0: return change("CARRIES", v, 1, 50);
            case 1: return change("LEFT", v, 0, 999);
            case 2: return change("BUDGET", v, 0, 4);
            default: return no(-2);
        }
    }

    int undo() {
        if (changes.isEmpty()) return no(-3);
        Object[] last = changes.removeLast();
        now.numbers.put((String) last[0], (Integer) last[1]);
        costs.clear();
        return 1;
    }

    int feed(int n, long bytes) {
        if (n < 1) return no(-4);
        if (n > 8 || text.length() + n > 40) return no(-6);
        for (int i = 0; i < n; i++) text += (char) (bytes >> 8 * i & 255);
        return text.length();
    }

    // ---- texts: a list of what may stand next is followed sign by sign

    private String s;
    private int p;
    private int bad;

    private char sign() {
        return p < s.length() ? s.charAt(p) : '\uffff';
    }

    private static final class Fault extends RuntimeException {
        private static final long serialVersionUID = 1;
        final int place;

        Fault(int place) {
            super(null, null, false, false);
            this.place = place;
        }
    }

    private boolean test(int deep) {
        boolean v = term(deep);
        while (sign() == '|') {
            p++;
            boolean w = term(deep);
            v = v || w;
        }
        return v;
    }

    private boolean term(int deep) {
        boolean v = part(deep);
        while (sign() == '&') {
            p++;
            boolean w = part(deep);
            v = v && w;
        }
        return v;
    }

    private boolean part(int deep) {
        char c = sign();
        if (c == '!') {
            if (deep == 4) throw new Fault(p);
            p++;
            return !part(deep + 1);
        }
        if (c == '(') {
            if (deep == 4) throw new Fault(p);
            p++;
            boolean v = test(deep + 1);
            if (sign() != ')') throw new Fault(p);
            p++;
            return v;
        }
        if (c == 'b') {
            p++;
            int d = digit();
            return d < 4 && (bad >> d & 1) == 1;
        }
        if (c == 'n') {
            p++;
            char how = sign();
            if ("<=>".indexOf(how) < 0) throw new Fault(p);
            p++;
            int d = digit();
            int n = Integer.bitCount(bad);
            return how == '<' ? n < d : how == '=' ? n == d : n > d;
        }
        throw new Fault(p);
    }

    private int digit() {
        char c = sign();
        if (c < '0' || c > '9') throw new Fault(p);
        p++;
        return c - '0';
    }

    private boolean lawHolds(String law, int world) {
        s = law;
        p = 0;
        bad = world;
        boolean v = test(0);
        if (p < s.length()) throw new Fault(p);
        return v;
    }

    private int planFor;
    private int ruleDay;

    private int sum(int deep) {
        int v = product(deep);
        while (sign() == '+' || sign() == '-') {
            char c = sign();
            p++;
            int w = product(deep);
            v = c == '+' ? v + w : v - w;
        }
        return v;
    }

    private int product(int deep) {
        int v = unit(deep);
        while (sign() == '*') {
            p++;
            v *= unit(deep);
        }
        return v;
    }

    private int unit(int deep) {
        char c = sign();
        if (c == '(') {
            if (deep == 4) throw new Fault(p);
            p++;
            int v = sum(deep + 1);
            if (sign() != ')') throw new Fault(p);
            p++;
            return v;
        }
        if (c == 'x') {
            p++;
            int d = digit();
            return d < 4 ? planFor / (int) Math.pow(4, d) % 4 : 0;
        }
        if (c == 's') {
            p++;
            int at = p;
            int d = digit();
            if (ruleDay >= 0 && (!now.harbours.contains(d) || of("DAY", d) > ruleDay)) throw new Fault(at);
            return bad >> d & 1;
        }
        int start = p;
        while (p < start + 3 && sign() >= '0' && sign() <= '9') p++;
        if (p == start) throw new Fault(p);
        return Integer.parseInt(s.substring(start, p));
    }

    private int ruleSays(String rule, int plan, int world, int day) {
        s = rule;
        p = 0;
        planFor = plan;
        bad = world;
        ruleDay = day;
        int v = sum(0);
        if (p < s.length()) throw new Fault(p);
        return v;
    }

    int law() {
        if (now.laws.size() == 12) return no(-6);
        String mine = text;
        text = "";
        try {
            lawHolds(mine, 0);
        } catch (Fault f) {
            return -20 - f.place;
        }
        now.laws.add(mine);
        now.holding.add(true);
        return now.laws.size() - 1;
    }

    int holds(int law, boolean on) {
        if (law < 0 || law >= now.laws.size()) return no(-1);
        if (now.holding.get(law) == on) return 0;
        now.holding.set(law, on);
        return 1;
    }

    int rule(int h, int day) {
        if (!now.harbours.contains(h)) return no(-1);
        if (day < 0) return no(-4);
        if (day > 9) return no(-6);
        String mine = text;
        text = "";
        try {
            ruleSays(mine, 0, 0, day);
        } catch (Fault f) {
            return -20 - f.place;
        }
        now.rules.put(h, mine);
        return 1;
    }

    int unrule(int h) {
        if (!now.harbours.contains(h)) return no(-1);
        return now.rules.remove(h) == null ? 0 : 1;
    }

    // ---- worlds and plans

    private boolean isWorld(int world) {
        if (world < 0 || world > 15) return false;
        for (int h = 0; h < 4; h++) if ((world >> h & 1) == 1 && !now.harbours.contains(h)) return false;
        return true;
    }

    private boolean isPlan(int plan) {
        if (plan < 0 || plan > 255) return false;
        for (int h = 0; h < 4; h++) if (ferries(plan, h) > 0 && !now.harbours.contains(h)) return false;
        return true;
    }

    private static int ferries(int plan, int h) {
        for (int i = 0; i < h; i++) plan /= 4;
        return plan % 4;
    }

    private boolean member(int world, int budget) {
        if (!isWorld(world) || Integer.bitCount(world) > budget) return false;
        for (int i = 0; i < now.laws.size(); i++) {
            if (now.holding.get(i) && !lawHolds(now.laws.get(i), world)) return false;
        }
        return true;
    }

    private List<Integer> setWith(int budget) {
        List<Integer> worlds = new ArrayList<>();
        for (int w = 0; w < 16; w++) if (member(w, budget)) worlds.add(w);
        return worlds;
    }

    private List<Integer> theSet() {
        return setWith(number("BUDGET"));
    }

    private int rest(int h, int plan, int world) {
        int needed = of("NEED", h) + ((world >> h & 1) == 1 ? of("MORE", h) : 0);
        return ferries(plan, h) * number("CARRIES") - needed;
    }

    private int fare(int plan) {
        int sum = 0;
        for (int h : now.harbours) sum += ferries(plan, h) * of("PRICE", h);
        return sum;
    }

    /** A general least-cost flow over edges: source 8, sink 9, givers 0 .. 3, takers 4 .. 7. */
    private int flowLater(int plan, int world) {
        List<int[]> edges = new ArrayList<>();
        for (int h : now.harbours) {
            int r = rest(h, plan, world);
            if (r > 0) edge(edges, 8, h, r, 0);
            if (r < 0) {
                edge(edges, 4 + h, 9, -r, 0);
                edge(edges, 8, 4 + h, of("LIMIT", h), of("DEAR", h));
                edge(edges, 8, 4 + h, 100000, number("LEFT"));
            }
        }
        for (int i : now.harbours) {
            for (int j : now.harbours) {
                if (i != j) edge(edges, i, 4 + j, 100000, number("MOVE" + i + ">" + j));
            }
        }
        int total = 0;
        while (true) {
            int[] dist = new int[10];
            int[] by = new int[10];
            Arrays.fill(dist, 1 << 28);
            dist[8] = 0;
            by[8] = -1;
            boolean moved = true;
            while (moved) {
                moved = false;
                for (int e = 0; e < edges.size(); e++) {
                    int[] edge = edges.get(e);
                    if (edge[2] > 0 && dist[edge[0]] < 1 << 27 && dist[edge[0]] + edge[3] < dist[edge[1]]) {
                        dist[edge[1]] = dist[edge[0]] + edge[3];
                        by[edge[1]] = e;
                        moved = true;
                    }
                }
            }
            if (dist[9] >= 1 << 27) return total;
            int units = 1 << 28;
            for (int n = 9; n != 8; n = edges.get(by[n])[0]) units = Math.min(units, edges.get(by[n])[2]);
            for (int n = 9; n != 8; n = edges.get(by[n])[0]) {
                edges.get(by[n])[2] -= units;
                edges.get(by[n] ^ 1)[2] += units;
            }
            total += units * dist[9];
        }
    }

    private static void edge(List<int[]> edges, int from, int to, int room, int cost) {
        edges.add(new int[] {from, to, room, cost});
        edges.add(new int[] {to, from, 0, -cost});
    }

    private int costOf(int plan, int world) {
        return costs.computeIfAbsent(plan * 16 + world, k -> fare(plan) + flowLater(plan, world));
    }

    /** World and cost, or null. */
    private int[] worstOf(int plan, List<Integer> worlds) {
        int[] worst = null;
        for (int w : worlds) {
            int c = costOf(plan, w);
            if (worst == null || c > worst[1]) worst = new int[] {w, c};
        }
        return worst;
    }

    /** Plan and cost, or null. */
    private int[] bestOf(List<Integer> worlds) {
        int[] best = null;
        if (worlds.isEmpty()) return null;
        for (int plan = 0; plan < 256; plan++) {
            if (!isPlan(plan)) continue;
            int c = worstOf(plan, worlds)[1];
            if (best == null || c < best[1]) best = new int[] {plan, c};
        }
        return best;
    }

    int inSet(int world) {
        if (world < 0 || world > 15) return no(-1);
        return member(world, number("BUDGET")) ? 1 : 0;
    }

    int later(int plan, int world) {
        if (!isPlan(plan) || !isWorld(world)) return no(-1);
        return costOf(plan, world) - fare(plan);
    }

    int cost(int plan, int world) {
        if (!isPlan(plan) || !isWorld(world)) return no(-1);
        return costOf(plan, world);
    }

    int worst(int plan, int what) {
        if (!isPlan(plan)) return no(-1);
        if (what < 0 || what > 1) return no(-2);
        int[] worst = worstOf(plan, theSet());
        return worst == null ? -9 : worst[1 - what];
    }

    int best(int what) {
        if (what < 0 || what > 1) return no(-2);
        int[] best = bestOf(theSet());
        return best == null ? -9 : best[what];
    }

    private int had(int h, int plan, int world) {
        String rule = now.rules.get(h);
        if (rule == null) return 0;
        int v = ruleSays(rule, plan, world, -1);
        return v < 0 ? 0 : Math.min(v, of("LIMIT", h));
    }

    private int left(int h, int plan, int world) {
        return Math.max(0, -rest(h, plan, world) - had(h, plan, world));
    }

    private int ruleCost(int plan, int world) {
        int sum = fare(plan);
        for (int h : now.harbours) {
            sum += had(h, plan, world) * of("DEAR", h) + left(h, plan, world) * number("LEFT");
        }
        return sum;
    }

    int byRules(int plan, int world) {
        if (!isPlan(plan) || !isWorld(world)) return no(-1);
        return ruleCost(plan, world);
    }

    int ruled(int plan, int what) {
        if (!isPlan(plan)) return no(-1);
        if (what < 0 || what > 1) return no(-2);
        List<Integer> worlds = theSet();
        if (worlds.isEmpty()) return -9;
        int most = 0;
        for (int w : worlds) most = Math.max(most, ruleCost(plan, w));
        return what == 0 ? most : most - worstOf(plan, worlds)[1];
    }

    int close(int n, int what) {
        if (what < 0 || what > 5) return no(-2);
        if (n < 1) return no(-4);
        if (n > 99) return no(-6);
        List<Integer> worlds = theSet();
        if (worlds.isEmpty()) return -9;
        TreeSet<Integer> borne = new TreeSet<>();
        borne.add(worlds.contains(0) ? 0 : worlds.get(0));
        int under = 0;
        int over = Integer.MAX_VALUE;
        int plan = -1;
        int rounds = 0;
        int proved = 0;
        while (rounds < n && proved == 0) {
            rounds++;
            int[] tried = bestOf(new ArrayList<>(borne));
            under = tried[1];
            int[] worst = worstOf(tried[0], worlds);
            if (worst[1] < over) {
                over = worst[1];
                plan = tried[0];
            }
            if (over == under) proved = 1;
            else borne.add(worst[0]);
        }
        return new int[] {under, over, plan, rounds, borne.size(), proved}[what];
    }

    int put(int v) {
        if (row.size() == 12) return no(-6);
        row.add(v);
        return row.size();
    }

    int prove(int plan, int world) {
        if (!isPlan(plan) || !isWorld(world)) return no(-1);
        if (row.size() != 12) return no(-3);
        List<Integer> r = new ArrayList<>(row);
        row.clear();
        for (int i = 0; i < 12; i++) if (r.get(i) < 0 || r.get(i) > 9999) return -1000 - i;
        long worth = 0;
        for (int j : now.harbours) {
            int lack = -rest(j, plan, world);
            if (lack < 0) worth += (long) r.get(4 + j) * lack;
            if (lack <= 0) continue;
            for (int i : now.harbours) {
                if (rest(i, plan, world) > 0 && r.get(j) > r.get(4 + i) + number("MOVE" + i + ">" + j)) {
                    return -1100 - 10 * i - j;
                }
            }
            if (r.get(j) > r.get(8 + j) + of("DEAR", j)) return -1200 - j;
            if (r.get(j) > number("LEFT")) return -1300 - j;
            worth += (long) r.get(j) * lack - (long) r.get(8 + j) * of("LIMIT", j);
        }
        return (int) Math.max(0, worth);
    }

    int promise(int plan, int day, int world) {
        if (!isPlan(plan) || !isWorld(world)) return no(-1);
        if (day < 0) return no(-4);
        if (day > 9) return no(-6);
        List<Integer> alike = new ArrayList<>();
        for (int w : theSet()) {
            boolean same = true;
            for (int h : now.harbours) {
                if (of("DAY", h) <= day && (w >> h & 1) != (world >> h & 1)) same = false;
            }
            if (same) alike.add(w);
        }
        return alike.isEmpty() ? -9 : worstOf(plan, alike)[1];
    }

    int corner(int budget) {
        if (budget < 0) return no(-4);
        if (budget > 4) return no(-6);
        int[] best = bestOf(setWith(budget));
        return best == null ? -9 : best[1];
    }

    int flat() {
        int[] best = bestOf(theSet());
        if (best == null || setWith(0).isEmpty()) return -9;
        int calm = worstOf(best[0], setWith(0))[1];
        for (int b = 4; b > 0; b--) if (worstOf(best[0], setWith(b))[1] == calm) return b;
        return 0;
    }

    private int knownOf(int h) {
        int most = 0;
        for (int bit = 0; bit < 2; bit++) {
            List<Integer> part = new ArrayList<>();
            for (int w : theSet()) if ((w >> h & 1) == bit) part.add(w);
            if (!part.isEmpty()) most = Math.max(most, bestOf(part)[1]);
        }
        return most;
    }

    int foreknown(int h, int what) {
        if (!now.harbours.contains(h)) return no(-1);
        if (what < 0 || what > 1) return no(-2);
        int[] best = bestOf(theSet());
        if (best == null) return -9;
        return what == 0 ? knownOf(h) : best[1] - knownOf(h);
    }

    int dearest() {
        int[] best = bestOf(theSet());
        if (best == null || now.harbours.isEmpty()) return -9;
        int most = -1;
        int found = -9;
        for (int h : now.harbours) {
            if (best[1] - knownOf(h) > most) {
                most = best[1] - knownOf(h);
                found = h;
            }
        }
        return found;
    }

    int who(int plan, int what) {
        if (!isPlan(plan)) return no(-1);
        if (what < 0 || what > 1) return no(-2);
        int[] found = null;
        for (int h : now.harbours) {
            for (int w : theSet()) {
                int units = left(h, plan, w);
                if (found == null || units > found[1]) found = new int[] {h, units};
            }
        }
        return found == null ? -9 : found[what];
    }

    int none(int mark, int what) {
        if (what < 0 || what > 1) return no(-2);
        if (mark < 0) return no(-4);
        if (mark > 99999) return no(-6);
        int set = 0;
        for (int w : theSet()) set |= 1 << w;
        // For each plan the worlds in which it is above the mark: a set that no plan bears meets all of them.
        TreeSet<Integer> above = new TreeSet<>();
        for (int plan = 0; plan < 256; plan++) {
            if (!isPlan(plan)) continue;
            int bits = 0;
            for (int w : theSet()) if (costOf(plan, w) > mark) bits |= 1 << w;
            above.add(bits);
        }
        for (int size = 1; size <= 3; size++) {
            for (int bits = 1; bits < 65536; bits++) {
                if (Integer.bitCount(bits) != size || (bits & ~set) != 0) continue;
                boolean all = true;
                for (int a : above) if ((a & bits) == 0) all = false;
                if (all) return what == 0 ? size : bits;
            }
        }
        return -9;
    }

    int year(int world) {
        if (!isWorld(world)) return no(-1);
        if (now.years.size() == 60) return no(-6);
        now.years.add(world);
        return now.years.size();
    }

    int out() {
        int n = 0;
        for (int y : now.years) if (!theSet().contains(y)) n++;
        return n;
    }

    int dearYears(int plan) {
        if (!isPlan(plan)) return no(-1);
        int[] worst = worstOf(plan, theSet());
        if (worst == null) return -9;
        int n = 0;
        for (int y : now.years) if (costOf(plan, y) > worst[1]) n++;
        return n;
    }

    int drawn(int n) {
        if (n < 0) return no(-4);
        if (n > 60) return no(-6);
        for (int b = 0; b <= 4; b++) {
            int in = 0;
            for (int y : now.years) if (setWith(b).contains(y)) in++;
            if (in >= n) return b;
        }
        return -9;
    }

    int image() {
        image = now.copy();
        return now.harbours.size();
    }

    int restore() {
        if (image == null) return no(-3);
        now = image.copy();
        changes.clear();
        costs.clear();
        return now.harbours.size();
    }

    int count(int what) {
        switch (what) {
            case 0: return now.harbours.size();
            case 1: return now.laws.size();
            case 2: return (int) now.holding.stream().filter(b -> b).count();
            case 3: return now.rules.size();
            case 4: return theSet().size();
            case 5: return now.years.size();
            case 6: return text.length();
            case 7: return row.size();
            case 8: return changes.size();
            case 11: case 12: case 13: case 14: case 15: case 16: return refused[what - 10];
            default: return -9;
        }
    }
}
