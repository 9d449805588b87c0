import java.util.Map;

/** A call of the class by its name, so that a run can be told, made again, and held against another. */
final class Call {
    private static final Map<String, Integer> NUMBERS_OF = Map.ofEntries(
        Map.entry("harbour", 1), Map.entry("tell", 3), Map.entry("move", 3), Map.entry("set", 2), Map.entry("undo", 0),
        Map.entry("feed", 2), Map.entry("law", 0), Map.entry("holds", 2), Map.entry("rule", 2), Map.entry("unrule", 1),
        Map.entry("inSet", 1), Map.entry("later", 2), Map.entry("cost", 2), Map.entry("worst", 2),
        Map.entry("best", 1), Map.entry("byRules", 2), Map.entry("ruled", 2), Map.entry("close", 2),
        Map.entry("put", 1), Map.entry("prove", 2), Map.entry("promise", 3), Map.entry("corner", 1),
        Map.entry("flat", 0), Map.entry("foreknown", 2), Map.entry("dearest", 0), Map.entry("who", 2),
        Map.entry("none", 2), Map.entry("year", 1), Map.entry("out", 0), Map.entry("dearYears", 1),
        Map.entry("drawn", 1), Map.entry("image", 0), Map.entry("restore", 0), Map.entry("count", 1));

    private final String name;
    private final long[] with;

    /** A boolean is told as 1 or 0. */
    Call(String name, long... with) {
        Integer wanted = NUMBERS_OF.get(name);
        if (wanted == null || wanted != with.length) throw new IllegalArgumentException(name + " of " + with.length);
        this.name = name;
        this.with = with.clone();
    }

    private int at(int place) {
        return place < with.length ? (int) with[place] : 0;
    }

    int on(FerryPlans x) {
        int a = at(0);
        int b = at(1);
        switch (name) {
            case "harbour": return x.harbour(a);
            case "tell": return x.tell(a, b, at(2));
            case "move": return x.move(a, b, at(2));
            case "set": return x.set(a, b);
            case "undo": return x.undo();
            case "feed": return x.feed(a, with[1]);
            case "law": return x.law();
            case "holds": return x.holds(a, b != 0);
            case "rule": return x.rule(a, b);
            case "unrule": return x.unrule(a);
            case "inSet": return x.inSet(a);
            case "later": return x.later(a, b);
            case "cost": return x.cost(a, b);
            case "worst": return x.worst(a, b);
            case "best": return x.best(a);
            case "byRules": return x.byRules(a, b);
            case "ruled": return x.ruled(a, b);
            default: return onLater(x, a, b);
        }
    }

    private int onLater(FerryPlans x, int a, int b) {
        switch (name) {
            case "close": return x.close(a, b);
            case "put": return x.put(a);
            case "prove": return x.prove(a, b);
            case "promise": return x.promise(a, b, at(2));
            case "corner": return x.corner(a);
            case "flat": return x.flat();
            case "foreknown": return x.foreknown(a, b);
            case "dearest": return x.dearest();
            case "who": return x.who(a, b);
            case "none": return x.none(a, b);
            case "year": return x.year(a);
            case "out": return x.out();
            case "dearYears": return x.dearYears(a);
            case "drawn": return x.drawn(a);
            case "image": return x.image();
            case "restore": return x.restore();
            case "count": return x.count(a);
            default: throw new IllegalArgumentException(name);
        }
    }

    @Override
    public String toString() {
        StringBuilder s = new StringBuilder(name).append('(');
        for (int i = 0; i < with.length; i++) s.append(i == 0 ? "" : ", ").append(with[i]);
        return s.append(')').toString();
    }
}
