import java.util.ArrayList;
import java.util.List;

/** Rows of calls that together ask an object for all that it holds; each row is asked of an object of its own. */
final class Probes {
    private static final int[] SOME_PLANS = {0, 1, 2, 3, 4, 5, 16, 64, 85, 255};
    private static final int[] SOME_WORLDS = {0, 1, 6, 15};
    private static final List<List<Call>> ROWS = rows();
    static final int MANY = ROWS.size();

    private Probes() {
    }

    static int[] ask(int row, FerryPlans x) {
        List<Call> calls = ROWS.get(row);
        int[] answers = new int[calls.size()];
        for (int i = 0; i < answers.length; i++) answers[i] = calls.get(i).on(x);
        return answers;
    }

    static String name(int row, int place) {
        return ROWS.get(row).get(place).toString();
    }

    /** Where a row asks how many refusals of the number there were; -1: nowhere. The first row begins with them. */
    static int placeOfRefusals(int row, int number) {
        return row == 0 && number <= -1 && number >= -6 ? -number - 1 : -1;
    }

    private static List<List<Call>> rows() {
        List<List<Call>> rows = new ArrayList<>();
        List<Call> counts = new ArrayList<>();
        for (int what = 11; what <= 16; what++) counts.add(new Call("count", what));
        rows.add(joined(counts, answers()));
        rows.add(numbers());
        rows.add(joined(undoes(1), numbers()));
        rows.add(joined(undoes(2), numbers()));
        rows.add(joined(undoes(41), numbers()));
        rows.add(textAsLaw());
        rows.add(textAsRule());
        rows.add(row());
        rows.add(joined(List.of(new Call("restore")), answers()));
        rows.add(joined(List.of(new Call("restore")), numbers()));
        return rows;
    }

    private static List<Call> joined(List<Call> first, List<Call> second) {
        List<Call> all = new ArrayList<>(first);
        all.addAll(second);
        return all;
    }

    /** Whether it asks for the TEXT, the row or changes, which are no part of THE IMAGE. */
    static boolean goesOn(Call call) {
        String asked = call.toString();
        return asked.equals("count(6)") || asked.equals("count(7)") || asked.equals("count(8)");
    }

    static List<Call> answers() {
        List<Call> all = new ArrayList<>();
        for (int what = 0; what <= 8; what++) all.add(new Call("count", what));
        for (int world = 0; world < 16; world++) all.add(new Call("inSet", world));
        for (int what = 0; what < 2; what++) all.add(new Call("best", what));
        for (int what = 0; what < 6; what++) all.add(new Call("close", 99, what));
        for (int budget = 0; budget < 5; budget++) all.add(new Call("corner", budget));
        for (String name : new String[] {"flat", "dearest", "out"}) all.add(new Call(name));
        for (int n : new int[] {0, 1, 30, 60}) all.add(new Call("drawn", n));
        for (int h = 0; h < 4; h++) all.add(new Call("foreknown", h, 0));
        for (int mark : new int[] {0, 100, 1000, 5000}) all.add(new Call("none", mark, 1));
        for (int day = 0; day < 10; day++) {
            all.add(new Call("promise", 1, day, 0));
            all.add(new Call("promise", 0, day, 15));
        }
        for (int plan : SOME_PLANS) {
            all.add(new Call("worst", plan, 0));
            all.add(new Call("ruled", plan, 0));
            all.add(new Call("who", plan, 1));
            all.add(new Call("dearYears", plan));
            for (int world : SOME_WORLDS) {
                all.add(new Call("later", plan, world));
                all.add(new Call("byRules", plan, world));
            }
        }
        return all;
    }

    /** Told anew, each number answers what it was. */
    static List<Call> numbers() {
        List<Call> all = new ArrayList<>();
        for (int h = 0; h < 4; h++) {
            for (int what = 0; what < 6; what++) all.add(new Call("tell", h, what, 0));
            for (int to = 0; to < 4; to++) if (to != h) all.add(new Call("move", h, to, 0));
        }
        for (int what = 0; what < 3; what++) all.add(new Call("set", what, 1));
        return all;
    }

    private static List<Call> undoes(int many) {
        List<Call> all = new ArrayList<>();
        for (int i = 0; i < many; i++) all.add(new Call("undo"));
        return all;
    }

    private static List<Call> textAsLaw() {
        List<Call> all = new ArrayList<>(List.of(new Call("law"), new Call("count", 1), new Call("count", 6)));
        for (int law = 0; law < 12; law++) {
            all.add(new Call("holds", law, 0));
            for (int world = 0; world < 16; world++) all.add(new Call("inSet", world));
        }
        return all;
    }

    private static List<Call> textAsRule() {
        List<Call> all = new ArrayList<>();
        for (int h = 0; h < 4; h++) all.add(new Call("rule", h, 9));
        for (int plan : SOME_PLANS) {
            for (int world : SOME_WORLDS) all.add(new Call("byRules", plan, world));
        }
        for (int h = 0; h < 4; h++) all.add(new Call("unrule", h));
        return all;
    }

    private static List<Call> row() {
        List<Call> all = new ArrayList<>();
        for (int i = 0; i < 12; i++) all.add(new Call("put", 0));
        for (int i = 0; i < 2; i++) all.add(new Call("prove", 0, 0));
        return all;
    }
}
