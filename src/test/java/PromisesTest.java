import java.util.function.IntSupplier;

/**
 * Each promise by numbers that were reckoned by hand: ordinary inputs, the edges that the document names, and wrong
 * inputs, which change nothing but how many REFUSALS there were.
 */
final class PromisesTest {
    private static final Checks CHECKS = new Checks("PromisesTest");
    private static final int LEAST = Integer.MIN_VALUE;
    private static final int MOST = Integer.MAX_VALUE;

    public static void main(String[] args) {
        newObject();
        harbours();
        tells();
        moves();
        sets();
        undoes();
        feeds();
        laws();
        lawFaults();
        holdings();
        rulesAreRead();
        ruleFaults();
        unrules();
        worldsInSet();
        laters();
        laterBySharing();
        costsOfPlans();
        worsts();
        bests();
        costsByRules();
        ruledPlans();
        closings();
        rows();
        proofs();
        promises();
        corners();
        flats();
        words();
        dearestWords();
        bearers();
        fewestWorlds();
        years();
        outs();
        dearYears();
        drawnSets();
        images();
        restores();
        counts();
        CHECKS.end();
    }

    private static void due(String call, int got, int want) {
        CHECKS.due(call, got, want);
    }

    /** The call answers the number, and of all that can be counted only that number's refusals went up by one. */
    private static void refused(FerryPlans x, int number, String call, IntSupplier made) {
        int before = x.count(10 - number);
        String others = others(x, number);
        due(call, made.getAsInt(), number);
        due("refusals after " + call, x.count(10 - number), before + 1);
        CHECKS.that("nothing else changes by " + call, others(x, number).equals(others));
    }

    private static String others(FerryPlans x, int number) {
        StringBuilder all = new StringBuilder();
        for (int what = 0; what <= 16; what++) if (what != 10 - number) all.append(x.count(what)).append(' ');
        all.append(x.best(0)).append(' ').append(x.best(1)).append(' ').append(x.out());
        for (int world = 0; world < 16; world++) all.append(x.inSet(world));
        return all.toString();
    }

    private static void tellAll(FerryPlans x, int h, int... numbers) {
        x.harbour(h);
        for (int what = 0; what < numbers.length; what++) x.tell(h, what, numbers[what]);
    }

    /**
     * Two harbours. COST in WORLDS 0 .. 3 of PLANS 0 .. 6: 550 1550 1050 2050; 55 580 458 1080; 80 85 90 488;
     * 110 110 120 120; 182 1182 197 1197; 80 212 90 227; 110 110 120 120.
     */
    private static FerryPlans pair() {
        FerryPlans x = new FerryPlans();
        tellAll(x, 0, 5, 10, 30, 8, 4, 2);
        tellAll(x, 1, 10, 5, 50, 3, 6, 5);
        x.move(0, 1, 2);
        x.move(1, 0, 7);
        return x;
    }

    /** Harbours that need one ferry (PRICE 50) each if they go bad, at most one of them. */
    private static FerryPlans oneBadOf(int harbours) {
        FerryPlans x = new FerryPlans();
        for (int h = 0; h < harbours; h++) tellAll(x, h, 0, 10, 50);
        x.set(2, 1);
        return x;
    }

    private static void newObject() {
        FerryPlans x = new FerryPlans();
        for (int what = 0; what <= 8; what++) due("count(" + what + ") of a new object", x.count(what), what == 4 ? 1 : 0);
        for (int what = 11; what <= 16; what++) due("count(" + what + ") of a new object", x.count(what), 0);
        due("best(0) of a new object", x.best(0), 0);
        due("best(1) of a new object", x.best(1), 0);
        due("set(0, 1) tells CARRIES at first", x.set(0, 1), 10);
        due("set(1, 1) tells LEFT at first", x.set(1, 1), 100);
        due("set(2, 1) tells BUDGET at first", x.set(2, 1), 4);
    }

    private static void harbours() {
        FerryPlans x = new FerryPlans();
        for (int h = 0; h < 4; h++) {
            due("harbour(" + h + ")", x.harbour(h), 1);
            due("HARBOURS", x.count(0), h + 1);
            for (int what = 0; what < 6; what++) due("its numbers are 0", x.tell(h, what, 0), 0);
        }
        for (int h : new int[] {-1, 4, LEAST, MOST}) refused(x, -1, "harbour(" + h + ")", () -> x.harbour(h));
        refused(x, -3, "harbour(3) again", () -> x.harbour(3));
        FerryPlans y = new FerryPlans();
        due("plan 1 is none before harbour 0", y.cost(1, 0), -1);
        y.harbour(0);
        due("plan 1 is one then", y.cost(1, 0), 0);
    }

    private static void tells() {
        int[] greatest = {99, 99, 999, 99, 99, 9};
        FerryPlans x = new FerryPlans();
        x.harbour(2);
        for (int what = 0; what < 6; what++) {
            int most = greatest[what];
            int kind = what;
            due("tell the greatest", x.tell(2, what, most), 0);
            due("tell the least", x.tell(2, what, 0), most);
            due("tell 3", x.tell(2, what, 3), 0);
            refused(x, -4, "tell -1", () -> x.tell(2, kind, -1));
            refused(x, -6, "tell one too many", () -> x.tell(2, kind, most + 1));
            refused(x, -4, "tell the least int", () -> x.tell(2, kind, LEAST));
            refused(x, -6, "tell the greatest int", () -> x.tell(2, kind, MOST));
            due("a refused tell leaves what it was", x.tell(2, what, 4), 3);
        }
        refused(x, -1, "tell(0, ..) no harbour", () -> x.tell(0, 9, -1));
        refused(x, -1, "tell(-1, ..)", () -> x.tell(-1, 0, 0));
        refused(x, -1, "tell(4, ..)", () -> x.tell(4, 0, 0));
        refused(x, -2, "tell(2, 6, -1)", () -> x.tell(2, 6, -1));
        refused(x, -2, "tell(2, -1, 5000)", () -> x.tell(2, -1, 5000));
    }

    private static void moves() {
        FerryPlans x = new FerryPlans();
        x.harbour(1);
        x.harbour(3);
        due("MOVE is 99 at first", x.move(1, 3, 0), 99);
        due("MOVE is told one way", x.move(3, 1, 99), 99);
        due("MOVE what it was", x.move(1, 3, 5), 0);
        refused(x, -1, "move(1, 1, 5)", () -> x.move(1, 1, 5));
        refused(x, -1, "move(0, 1, -1)", () -> x.move(0, 1, -1));
        refused(x, -1, "move(1, 0, 100)", () -> x.move(1, 0, 100));
        refused(x, -1, "move(-1, 4, 1)", () -> x.move(-1, 4, 1));
        refused(x, -4, "move(1, 3, -1)", () -> x.move(1, 3, -1));
        refused(x, -6, "move(1, 3, 100)", () -> x.move(1, 3, 100));
        due("MOVE stays", x.move(1, 3, 6), 5);
    }

    private static void sets() {
        FerryPlans x = new FerryPlans();
        int[] least = {1, 0, 0};
        int[] most = {50, 999, 4};
        int[] first = {10, 100, 4};
        for (int what = 0; what < 3; what++) {
            int kind = what;
            due("set the least", x.set(what, least[what]), first[what]);
            due("set the greatest", x.set(what, most[what]), least[what]);
            refused(x, -4, "set below", () -> x.set(kind, least[kind] - 1));
            refused(x, -6, "set above", () -> x.set(kind, most[kind] + 1));
            due("set stays", x.set(what, least[what]), most[what]);
        }
        refused(x, -2, "set(3, -1)", () -> x.set(3, -1));
        refused(x, -2, "set(-1, 5000)", () -> x.set(-1, 5000));
        FerryPlans y = pair();
        y.set(0, 15);
        due("CARRIES 15: plan 1 has what harbour 0 needs", y.later(1, 3), 918);
        y.set(1, 2);
        due("LEFT 2 is cheaper than DEAR", y.later(0, 0), 30);
    }

    private static void undoes() {
        FerryPlans x = new FerryPlans();
        refused(x, -3, "undo() of nothing", x::undo);
        x.harbour(0);
        x.harbour(1);
        refused(x, -3, "a harbour is no change", x::undo);
        x.tell(0, 0, 7);
        x.tell(0, 0, 7);
        x.move(0, 1, 3);
        x.set(2, 1);
        due("changes", x.count(8), 4);
        due("undo() of BUDGET", x.undo(), 1);
        due("BUDGET is back", x.count(4), 4);
        due("undo() of MOVE", x.undo(), 1);
        due("undo() of what was so", x.undo(), 1);
        due("changes left", x.count(8), 1);
        due("NEED stays 7", x.later(0, 0), 700);
        due("undo() of NEED", x.undo(), 1);
        due("NEED is 0", x.later(0, 0), 0);
        refused(x, -3, "all is undone", x::undo);
        due("MOVE was 99", x.move(0, 1, 99), 99);
        FerryPlans y = new FerryPlans();
        y.harbour(0);
        for (int v = 1; v <= 45; v++) y.tell(0, 0, v);
        due("40 are kept", y.count(8), 40);
        for (int v = 44; v >= 5; v--) {
            due("undo()", y.undo(), 1);
            due("the latest first", y.later(0, 0), 100 * v);
        }
        refused(y, -3, "the oldest are not kept", y::undo);
        y.tell(0, 0, 9);
        due("after that changes are kept again", y.undo(), 1);
        due("NEED as it was", y.later(0, 0), 500);
    }

    private static void feeds() {
        FerryPlans x = new FerryPlans();
        due("feed(1, ..)", x.feed(1, 'b' | 'x' << 8), 1);
        due("bytes behind n do not come", x.count(6), 1);
        due("feed(1, '0')", x.feed(1, '0'), 2);
        due("the lowest byte is the first", x.law(), 0);
        due("feed(8, ..)", x.feed(8, -1L), 8);
        refused(x, -4, "feed(0, ..)", () -> x.feed(0, 1));
        refused(x, -4, "feed(least, ..)", () -> x.feed(LEAST, 1));
        refused(x, -6, "feed(9, ..)", () -> x.feed(9, 1));
        refused(x, -6, "feed(greatest, ..)", () -> x.feed(MOST, 1));
        for (int i = 2; i <= 4; i++) due("feed(8, ..)", x.feed(8, 0), 8 * i);
        due("feed(7, ..)", x.feed(7, 0), 39);
        refused(x, -6, "41 bytes", () -> x.feed(2, 0));
        due("40 bytes", x.feed(1, 0), 40);
        refused(x, -6, "41 bytes", () -> x.feed(1, 0));
        due("byte 255 can not stand", x.law(), -20);
        due("a TEXT of 40 bytes lacks something", Checks.law(x, "n=0|n=1|n=2|n=3|n=4|n=5|n=6|n=7|n=8|!b0|"), -60);
        due("a TEXT of 40 bytes is a LAW", Checks.law(x, "n=0|n=1|n=2|n=3|n=4|n=5|n=6|n=7|b0|b1&b2"), 1);
    }

    /** The worlds of four harbours for which a law holds, as bits. */
    private static int worldsOf(String law) {
        FerryPlans x = new FerryPlans();
        for (int h = 0; h < 4; h++) x.harbour(h);
        due("law " + law, Checks.law(x, law), 0);
        due("the TEXT has none after law " + law, x.count(6), 0);
        int bits = 0;
        for (int world = 0; world < 16; world++) bits |= x.inSet(world) << world;
        return bits;
    }

    private static void laws() {
        due("b0", worldsOf("b0"), 0xAAAA);
        due("b3", worldsOf("b3"), 0xFF00);
        due("b4", worldsOf("b4"), 0);
        due("!b9", worldsOf("!b9"), 0xFFFF);
        due("n<1", worldsOf("n<1"), 1);
        due("n=4", worldsOf("n=4"), 0x8000);
        due("n>3", worldsOf("n>3"), 0x8000);
        due("n>9", worldsOf("n>9"), 0);
        due("n<9", worldsOf("n<9"), 0xFFFF);
        due("n=1", worldsOf("n=1"), 1 << 1 | 1 << 2 | 1 << 4 | 1 << 8);
        due("& before |", worldsOf("b0|b1&b2"), 0xAAAA | 0xCCCC & 0xF0F0);
        due("( ) first", worldsOf("(b0|b1)&b2"), (0xAAAA | 0xCCCC) & 0xF0F0);
        due("! takes one PART", worldsOf("!b0&b1"), 0x5555 & 0xCCCC);
        due("! of ( )", worldsOf("!(b0&b1)"), 0xFFFF & ~(0xAAAA & 0xCCCC));
        due("!!!!b1", worldsOf("!!!!b1"), 0xCCCC);
        due("four deep, mixed", worldsOf("!(!(b1))|(((!b2)))"), 0xCCCC | 0x0F0F);
        due("four deep, again and again", worldsOf("((((b0))))&((((b1))))"), 0x8888);
        FerryPlans x = new FerryPlans();
        for (int i = 0; i < 12; i++) due("law number", Checks.law(x, "n<9"), i);
        due("LAWS", x.count(1), 12);
        Checks.feed(x, "n<9");
        refused(x, -6, "a thirteenth law", x::law);
        due("the TEXT stays", x.count(6), 3);
        Checks.feed(x, "?");
        refused(x, -6, "a thirteenth law with a FAULT", x::law);
    }

    private static void lawFault(String law, int place) {
        FerryPlans x = new FerryPlans();
        x.harbour(0);
        String before = Checks.counts(x);
        due("law " + law, Checks.law(x, law), -20 - place);
        CHECKS.that("nothing is counted by law " + law, Checks.counts(x).equals(before));
    }

    private static void lawFaults() {
        lawFault("", 0);
        lawFault("b", 1);
        lawFault("bb", 1);
        lawFault("n", 1);
        lawFault("n5", 1);
        lawFault("n<", 2);
        lawFault("n<b", 2);
        lawFault("n<12", 3);
        lawFault("b12", 2);
        lawFault("b0|", 3);
        lawFault("b0||b1", 3);
        lawFault("b0&|b1", 3);
        lawFault("b0 ", 2);
        lawFault(" b0", 0);
        lawFault("b0)", 2);
        lawFault("(b0", 3);
        lawFault("()", 1);
        lawFault("(b0|)", 4);
        lawFault("!", 1);
        lawFault("b0!b1", 2);
        lawFault("!!!!!b0", 4);
        lawFault("((((( ", 4);
        lawFault("(!(!(b0))))", 4);
        lawFault("!!!!b0&!!!!!b0", 11);
        lawFault("x0", 0);
        lawFault("B0", 0);
        lawFault("b/", 1);
        lawFault("b:", 1);
        lawFault("\u00e20", 0);
    }

    private static void holdings() {
        FerryPlans x = new FerryPlans();
        x.harbour(0);
        refused(x, -1, "holds(0, ..) without laws", () -> x.holds(0, true));
        Checks.law(x, "b0");
        Checks.law(x, "n>0");
        due("a new law holds", x.holds(0, true), 0);
        due("WORLDS", x.count(4), 1);
        due("it holds no more", x.holds(0, false), 1);
        due("it was so", x.holds(0, false), 0);
        due("WORLDS by the other", x.count(4), 1);
        due("that neither", x.holds(1, false), 1);
        due("WORLDS without laws", x.count(4), 2);
        due("LAWS", x.count(1), 2);
        due("LAWS that hold", x.count(2), 0);
        due("again", x.holds(1, true), 1);
        due("LAWS that hold", x.count(2), 1);
        for (int law : new int[] {-1, 2, LEAST, MOST}) refused(x, -1, "holds(" + law + ")", () -> x.holds(law, false));
    }

    /** What a rule of harbour 0 says for a plan in a world: DEAR is 1, LIMIT 99, nothing is needed. */
    private static int says(String rule, int plan, int world) {
        FerryPlans x = new FerryPlans();
        for (int h = 0; h < 4; h++) x.harbour(h);
        x.tell(0, 3, 1);
        x.tell(0, 4, 99);
        due("rule " + rule, Checks.rule(x, 0, 0, rule), 1);
        due("the TEXT has none after rule " + rule, x.count(6), 0);
        return x.byRules(plan, world);
    }

    private static void rulesAreRead() {
        due("007", says("007", 0, 0), 7);
        due("98", says("98", 0, 0), 98);
        due("LIMIT at most", says("999", 0, 0), 99);
        due("0 at least", says("3-4", 0, 0), 0);
        due("from the left", says("9-4-3", 0, 0), 2);
        due("* before +", says("2+3*4", 0, 0), 14);
        due("* before -", says("50-3*4*2+1", 0, 0), 27);
        due("( ) first", says("(2+3)*(9-5)", 0, 0), 20);
        due("x0 .. x3", says("x0+x1*4+x2*16+x3*(8*8-36)", 3 + 2 * 4 + 16 + 64, 0), 3 + 8 + 16 + 28);
        due("x4 .. x9 are 0", says("5+x4*9+x9", 255, 0), 5);
        due("s0 .. s3", says("s0+s1*2+s2*4+s3*8", 0, 11), 11);
        due("32 bits: 2 to the 32nd is 0", says("256*256*256*256+7", 0, 0), 7);
        due("32 bits: 2 to the 31st is below 0", says("256*256*256*128", 0, 0), 0);
        due("32 bits: that less 1 is the greatest", says("256*256*256*128-1", 0, 0), 99);
        due("four deep", says("((((5))))+((((6))))", 0, 0), 11);
        FerryPlans x = pair();
        due("by its DAY", Checks.rule(x, 0, 2, "s0"), 1);
        due("a DAY before", Checks.rule(x, 0, 1, "s0"), -21);
        due("a FAULT leaves the earlier", x.byRules(0, 1), 1408 + 1000);
        due("a rule takes the place of the earlier", Checks.rule(x, 0, 9, "s1*2"), 1);
        due("RULES", x.count(3), 1);
        x.tell(1, 5, 9);
        Checks.rule(x, 1, 9, "s1");
        x.tell(1, 5, 2);
        due("rules stay as they were read", x.byRules(0, 2), 2 * 8 + 3 * 100 + 3 + 14 * 100);
        x.tell(1, 5, 9);
        x.tell(0, 5, 9);
        due("though their DAY is told anew", x.byRules(0, 2), 2 * 8 + 3 * 100 + 3 + 14 * 100);
        Checks.feed(x, "5");
        refused(x, -1, "rule(2, -1)", () -> x.rule(2, -1));
        refused(x, -1, "rule(-1, 0)", () -> x.rule(-1, 0));
        refused(x, -1, "rule(4, 10)", () -> x.rule(4, 10));
        refused(x, -4, "rule(0, -1)", () -> x.rule(0, -1));
        refused(x, -6, "rule(0, 10)", () -> x.rule(0, 10));
        due("refused, the TEXT stays", x.count(6), 1);
    }

    private static void ruleFault(String rule, int day, int place) {
        FerryPlans x = pair();
        String before = Checks.counts(x);
        due("rule " + rule, Checks.rule(x, 1, day, rule), -20 - place);
        CHECKS.that("nothing is counted by rule " + rule, Checks.counts(x).equals(before));
    }

    private static void ruleFaults() {
        ruleFault("", 9, 0);
        ruleFault("1234", 9, 3);
        ruleFault("3-", 9, 2);
        ruleFault("-3", 9, 0);
        ruleFault("3+*4", 9, 2);
        ruleFault("3x0", 9, 1);
        ruleFault("x", 9, 1);
        ruleFault("xs", 9, 1);
        ruleFault("s", 9, 1);
        ruleFault("s+", 9, 1);
        ruleFault("s0+s1", 4, 4);
        ruleFault("s1+s0", 1, 1);
        ruleFault("s2", 9, 1);
        ruleFault("s4", 9, 1);
        ruleFault("s9+", 9, 1);
        ruleFault("(3", 9, 2);
        ruleFault("3)", 9, 1);
        ruleFault("()", 9, 1);
        ruleFault("(((((3)))))", 9, 4);
        ruleFault("((((3))))*(((((", 9, 14);
        ruleFault("b0", 9, 0);
        ruleFault("12 ", 9, 2);
        ruleFault("\u00b11", 9, 0);
    }

    private static void unrules() {
        FerryPlans x = pair();
        due("it had none", x.unrule(0), 0);
        Checks.rule(x, 0, 9, "4");
        due("by the rule", x.byRules(0, 0), 4 * 8 + 100 + 1000);
        due("it has none any more", x.unrule(0), 1);
        due("without", x.byRules(0, 0), 1500);
        due("RULES", x.count(3), 0);
        due("it had none", x.unrule(0), 0);
        for (int h : new int[] {-1, 2, 4, MOST}) refused(x, -1, "unrule(" + h + ")", () -> x.unrule(h));
    }

    private static void worldsInSet() {
        FerryPlans x = new FerryPlans();
        x.harbour(0);
        x.harbour(3);
        int[] in = {0, 1, 8, 9};
        for (int world = 0; world < 16; world++) {
            int want = 0;
            for (int one : in) if (one == world) want = 1;
            due("inSet(" + world + ")", x.inSet(world), want);
        }
        x.set(2, 1);
        due("9 is above BUDGET 1", x.inSet(9), 0);
        due("8 is not", x.inSet(8), 1);
        x.set(2, 0);
        due("8 is above BUDGET 0", x.inSet(8), 0);
        due("0 is not", x.inSet(0), 1);
        for (int world : new int[] {-1, 16, LEAST, MOST}) refused(x, -1, "inSet(" + world + ")", () -> x.inSet(world));
    }

    private static void laters() {
        int[][] due = {
            {550, 1550, 1050, 2050}, {25, 550, 428, 1050}, {20, 25, 30, 428}, {20, 20, 30, 30},
            {132, 1132, 147, 1147}, {0, 132, 10, 147}, {0, 0, 10, 10}};
        FerryPlans x = pair();
        for (int plan = 0; plan < due.length; plan++) {
            for (int world = 0; world < 4; world++) {
                due("later(" + plan + ", " + world + ")", x.later(plan, world), due[plan][world]);
            }
        }
        due("moved, had, and left", x.later(8, 1), 10 * 7 + 4 * 8 + 100);
        refused(x, -1, "later(-1, 0)", () -> x.later(-1, 0));
        refused(x, -1, "later(256, 0)", () -> x.later(256, 0));
        refused(x, -1, "later(16, 0)", () -> x.later(16, 0));
        refused(x, -1, "later(0, 4)", () -> x.later(0, 4));
        refused(x, -1, "later(0, 16)", () -> x.later(0, 16));
        refused(x, -1, "later(0, -1)", () -> x.later(0, -1));
        refused(x, -1, "later(least, least)", () -> x.later(LEAST, LEAST));
        refused(x, -1, "later(2 to the 28th, 0)", () -> x.later(1 << 28, 0));
    }

    /** The nearest is not always the best: who has no other way goes first. */
    private static void laterBySharing() {
        FerryPlans x = new FerryPlans();
        for (int h = 0; h < 4; h++) x.harbour(h);
        x.tell(2, 0, 10);
        x.tell(3, 0, 10);
        x.move(0, 2, 1);
        x.move(1, 2, 4);
        x.move(0, 3, 2);
        x.move(1, 3, 90);
        due("2 from 1, 3 from 0", x.later(1 + 4, 0), 40 + 20);
        due("one giver: where it saves most", x.later(1, 0), 10 + 1000);
        x.tell(2, 3, 5);
        x.tell(2, 4, 99);
        due("one giver: 2 has its own way", x.later(1, 0), 50 + 20);
        x.tell(2, 4, 3);
        due("LIMIT 3", x.later(1, 0), 3 * 5 + 7 * 1 + 3 * 2 + 7 * 100);
        x.set(1, 1);
        due("LEFT is cheapest", x.later(5, 0), 20);
        x.set(1, 0);
        due("LEFT 0", x.later(0, 0), 0);
    }

    private static void costsOfPlans() {
        int[][] due = {
            {550, 1550, 1050, 2050}, {55, 580, 458, 1080}, {80, 85, 90, 488}, {110, 110, 120, 120},
            {182, 1182, 197, 1197}, {80, 212, 90, 227}, {110, 110, 120, 120}};
        FerryPlans x = pair();
        for (int plan = 0; plan < due.length; plan++) {
            for (int world = 0; world < 4; world++) {
                due("cost(" + plan + ", " + world + ")", x.cost(plan, world), due[plan][world]);
            }
        }
        due("a world above BUDGET has its COST, too", pairWithBudget(0).cost(2, 3), 488);
        x.tell(0, 2, 31);
        due("PRICE told anew", x.cost(2, 3), 490);
        x.tell(0, 0, 4);
        due("NEED told anew", x.cost(2, 3), 62 + 12 + 18 + 300);
        x.undo();
        due("NEED undone", x.cost(2, 3), 490);
        refused(x, -1, "cost(64, 0)", () -> x.cost(64, 0));
        refused(x, -1, "cost(-1, 0)", () -> x.cost(-1, 0));
        refused(x, -1, "cost(256, 0)", () -> x.cost(256, 0));
        refused(x, -1, "cost(0, 8)", () -> x.cost(0, 8));
        refused(x, -1, "cost(0, -1)", () -> x.cost(0, -1));
        refused(x, -1, "cost(0, 16)", () -> x.cost(0, 16));
    }

    private static FerryPlans pairWithBudget(int budget) {
        FerryPlans x = pair();
        x.set(2, budget);
        return x;
    }

    private static void worsts() {
        FerryPlans x = pair();
        int[] most = {2050, 1080, 488, 120, 1197, 227, 120};
        int[] at = {3, 3, 3, 2, 3, 3, 2};
        for (int plan = 0; plan < most.length; plan++) {
            due("worst(" + plan + ", 0)", x.worst(plan, 0), most[plan]);
            due("worst(" + plan + ", 1)", x.worst(plan, 1), at[plan]);
        }
        due("all the same: the least WORLD", x.worst(10, 1), 0);
        x.set(2, 1);
        due("BUDGET 1", x.worst(0, 0), 1550);
        due("BUDGET 1", x.worst(0, 1), 1);
        refused(x, -1, "worst(16, 5)", () -> x.worst(16, 5));
        refused(x, -1, "worst(-1, 0)", () -> x.worst(-1, 0));
        refused(x, -2, "worst(0, 2)", () -> x.worst(0, 2));
        refused(x, -2, "worst(0, -1)", () -> x.worst(0, -1));
        Checks.law(x, "b9");
        due("none", x.worst(0, 0), -9);
        due("none", x.worst(0, 1), -9);
        refused(x, -2, "worst(0, 2) with none", () -> x.worst(0, 2));
    }

    private static void bests() {
        due("of several the least", pair().best(0), 3);
        due("BEST COST", pair().best(1), 120);
        due("BUDGET 1", pairWithBudget(1).best(0), 2);
        due("BUDGET 1", pairWithBudget(1).best(1), 90);
        due("BUDGET 0", pairWithBudget(0).best(0), 1);
        due("BUDGET 0", pairWithBudget(0).best(1), 55);
        FerryPlans x = pair();
        refused(x, -2, "best(2)", () -> x.best(2));
        refused(x, -2, "best(-1)", () -> x.best(-1));
        Checks.law(x, "b2");
        due("none", x.best(0), -9);
        due("none", x.best(1), -9);
        x.harbour(2);
        due("harbour 2 must go BAD, and needs nothing", x.best(1), 120);
    }

    private static FerryPlans ruledPair() {
        FerryPlans x = pair();
        Checks.rule(x, 0, 2, "s0*3+1");
        Checks.rule(x, 1, 5, "x0*5+s1");
        return x;
    }

    private static void costsByRules() {
        FerryPlans x = ruledPair();
        due("byRules(0, 0)", x.byRules(0, 0), 8 + 400 + 1000);
        due("byRules(1, 3)", x.byRules(1, 3), 30 + 32 + 100 + 18 + 900);
        due("what is not needed is paid", x.byRules(1, 0), 30 + 8 + 15 + 500);
        due("LIMIT", x.byRules(2, 2), 60 + 8 + 18 + 900);
        due("out of THE SET, too", x.set(2, 0), 4);
        due("out of THE SET, too", x.byRules(1, 3), 1080);
        refused(x, -1, "byRules(16, 0)", () -> x.byRules(16, 0));
        refused(x, -1, "byRules(256, 0)", () -> x.byRules(256, 0));
        refused(x, -1, "byRules(0, 4)", () -> x.byRules(0, 4));
        refused(x, -1, "byRules(0, -1)", () -> x.byRules(0, -1));
    }

    private static void ruledPlans() {
        FerryPlans x = ruledPair();
        due("ruled(1, 0)", x.ruled(1, 0), 1080);
        due("ruled(1, 1)", x.ruled(1, 1), 0);
        due("ruled(3, 0)", x.ruled(3, 0), 1040);
        due("ruled(3, 1)", x.ruled(3, 1), 920);
        x.set(2, 1);
        due("ruled(1, 0), BUDGET 1", x.ruled(1, 0), 956);
        due("ruled(1, 1), BUDGET 1", x.ruled(1, 1), 956 - 580);
        refused(x, -1, "ruled(64, 3)", () -> x.ruled(64, 3));
        refused(x, -2, "ruled(0, 2)", () -> x.ruled(0, 2));
        refused(x, -2, "ruled(0, -1)", () -> x.ruled(0, -1));
        Checks.law(x, "n>9");
        due("none", x.ruled(1, 0), -9);
        due("none", x.ruled(1, 1), -9);
    }

    private static void closings() {
        FerryPlans x = pair();
        int[] one = {55, 1080, 1, 1, 2, 0};
        int[] two = {120, 120, 3, 2, 2, 1};
        for (int what = 0; what < 6; what++) {
            due("close(1, " + what + ")", x.close(1, what), one[what]);
            due("close(2, " + what + ")", x.close(2, what), two[what]);
            due("close(99, " + what + ")", x.close(99, what), two[what]);
        }
        // Without WORLD 0 the least one of THE SET is borne first.
        Checks.law(x, "n>0");
        int[] first = {85, 488, 2, 1, 2, 0};
        for (int what = 0; what < 6; what++) due("close(1, " + what + ") n>0", x.close(1, what), first[what]);
        // One world: proved at once.
        Checks.law(x, "b0&b1");
        int[] only = {120, 120, 3, 1, 1, 1};
        for (int what = 0; what < 6; what++) due("close(9, " + what + ") b0&b1", x.close(9, what), only[what]);
        refused(x, -2, "close(0, 6)", () -> x.close(0, 6));
        refused(x, -2, "close(100, -1)", () -> x.close(100, -1));
        refused(x, -4, "close(0, 5)", () -> x.close(0, 5));
        refused(x, -6, "close(100, 5)", () -> x.close(100, 5));
        Checks.law(x, "!b0");
        for (int what = 0; what < 6; what++) due("THE SET is empty", x.close(9, what), -9);
        closingSlowly();
        closingWithTheFirst();
    }

    /**
     * In WORLD 0 PLAN 48 is best (5); its WORST is 20, in WORLD 5. In both no PLAN is below 20, and PLAN 32 is the
     * least that has it, with a WORST of 20, too: OVER stays with the first that had it.
     */
    private static void closingWithTheFirst() {
        FerryPlans x = new FerryPlans();
        tellAll(x, 0, 2, 2, 9);
        tellAll(x, 1, 0, 0, 2, 3, 2);
        tellAll(x, 2, 2, 2, 0, 0, 2);
        int[][] moves = {{0, 1, 5}, {0, 2, 4}, {1, 0, 3}, {1, 2, 2}, {2, 0, 0}, {2, 1, 1}};
        for (int[] one : moves) x.move(one[0], one[1], one[2]);
        x.set(0, 1);
        x.set(1, 5);
        x.set(2, 2);
        int[] due = {20, 20, 48, 2, 2, 1};
        for (int what = 0; what < 6; what++) due("close(9, " + what + ") of two", x.close(9, what), due[what]);
        due("BEST is the least", x.best(0), 32);
    }

    /** Three harbours of which one goes bad: WORLDS 0, 1, 2, 4 are borne by and by. */
    private static void closingSlowly() {
        FerryPlans x = oneBadOf(3);
        int[][] due = {
            {0, 1000, 0, 1, 2, 0}, {50, 1000, 0, 2, 3, 0}, {100, 1000, 0, 3, 4, 0}, {150, 150, 21, 4, 4, 1}};
        // MOVE is 99: PLANS 1 and 5 are worse at their worst (1040, 1090) than PLAN 0, which had OVER first.
        for (int n = 1; n <= 4; n++) {
            for (int what = 0; what < 6; what++) {
                due("close(" + n + ", " + what + ") slowly", x.close(n, what), due[n - 1][what]);
            }
        }
    }

    private static void rows() {
        FerryPlans x = pair();
        int[] values = {0, -1, LEAST, MOST, 9999, 10000, 1, 2, 3, 4, 5, 6};
        for (int i = 0; i < 12; i++) due("put", x.put(values[i]), i + 1);
        refused(x, -6, "a thirteenth int", () -> x.put(0));
        due("ints of the row", x.count(7), 12);
        due("the row is read as it was put", x.prove(1, 0), -1001);
        due("the row has none then", x.count(7), 0);
        due("put", x.put(1), 1);
    }

    private static int proof(FerryPlans x, int plan, int world, int... row) {
        for (int v : row) x.put(v);
        return x.prove(plan, world);
    }

    private static void proofs() {
        FerryPlans x = pair();
        due("WORTH is LATER", proof(x, 1, 0, 0, 3, 0, 0, 1, 0, 0, 0, 0, 0, 0, 0), 25);
        due("the row has none then", x.count(7), 0);
        due("WORTH less w times LIMIT", proof(x, 0, 0, 100, 100, 0, 0, 0, 0, 0, 0, 92, 97, 0, 0), 500 - 368 + 1000 - 582);
        due("0 at least", proof(x, 1, 0, 0, 3, 0, 0, 9999, 0, 0, 0, 0, 0, 0, 0), 0);
        due("MOVE", proof(x, 1, 0, 0, 3, 0, 0, 0, 0, 0, 0, 0, 0, 0, 0), -1101);
        due("MOVE of 1 to 0", proof(x, 8, 0, 9, 0, 0, 0, 0, 1, 0, 0, 9, 0, 0, 0), -1110);
        due("DEAR", proof(x, 1, 0, 0, 4, 0, 0, 2, 0, 0, 0, 0, 0, 0, 0), -1201);
        due("LEFT", proof(x, 0, 0, 101, 101, 0, 0, 0, 0, 0, 0, 99, 99, 0, 0), -1300);
        due("j by j: DEAR of 0 before 1", proof(x, 0, 0, 101, 101, 0, 0, 0, 0, 0, 0, 0, 0, 0, 0), -1200);
        due("who lacks nothing may have any u", proof(x, 1, 0, 9999, 3, 9999, 9999, 1, 0, 0, 0, 0, 0, 0, 0), 25);
        due("who has nothing to move may have any v", proof(x, 0, 0, 8, 3, 0, 0, 9999, 9999, 7, 7, 0, 0, 5, 5), 70);
        due("w of who lacks nothing is not taken", proof(x, 1, 0, 0, 3, 0, 0, 1, 0, 0, 0, 9999, 0, 9, 9), 25);
        due("a harbour that has just what it needs", proof(x, 4, 0, 8, 9999, 0, 0, 0, 9999, 0, 0, 0, 9999, 0, 0), 40);
        for (int place = 0; place < 12; place++) {
            int[] row = new int[12];
            row[11] = 10000;
            row[place] = -1;
            due("-1 at " + place, proof(x, 1, 0, row), -1000 - place);
            row[place] = 10000;
            due("10000 at " + place, proof(x, 1, 0, row), -1000 - place);
        }
        for (int i = 0; i < 11; i++) x.put(0);
        refused(x, -1, "prove(16, 0)", () -> x.prove(16, 0));
        refused(x, -1, "prove(0, 4)", () -> x.prove(0, 4));
        refused(x, -3, "prove(0, 0) of 11", () -> x.prove(0, 0));
        due("the row stays", x.put(0), 12);
        refused(x, -1, "prove(-1, 0) of 12", () -> x.prove(-1, 0));
        due("the row stays", x.count(7), 12);
        due("all 0", x.prove(0, 0), 0);
    }

    private static void promises() {
        FerryPlans x = pair();
        due("nothing is shown", x.promise(1, 0, 3), 1080);
        due("nothing is shown", x.promise(1, 1, 0), 1080);
        due("0 is shown: not BAD", x.promise(1, 2, 0), 458);
        due("0 is shown: BAD", x.promise(1, 2, 1), 1080);
        due("1 is not yet shown", x.promise(1, 4, 2), 458);
        due("all is shown", x.promise(1, 5, 0), 55);
        due("all is shown", x.promise(1, 9, 1), 580);
        x.set(2, 1);
        due("none is as shown", x.promise(1, 9, 3), -9);
        due("the true WORLD needn't be in THE SET", x.promise(1, 2, 3), 580);
        refused(x, -1, "promise(16, -1, 0)", () -> x.promise(16, -1, 0));
        refused(x, -1, "promise(0, 10, 4)", () -> x.promise(0, 10, 4));
        refused(x, -1, "promise(0, 0, -1)", () -> x.promise(0, 0, -1));
        refused(x, -4, "promise(0, -1, 0)", () -> x.promise(0, -1, 0));
        refused(x, -6, "promise(0, 10, 0)", () -> x.promise(0, 10, 0));
    }

    private static void corners() {
        FerryPlans x = pairWithBudget(1);
        int[] due = {55, 90, 120, 120, 120};
        for (int budget = 0; budget <= 4; budget++) due("corner(" + budget + ")", x.corner(budget), due[budget]);
        due("BUDGET stays", x.best(1), 90);
        Checks.law(x, "n>1");
        due("corner(1) with n>1", x.corner(1), -9);
        due("corner(2) with n>1", x.corner(2), 120);
        refused(x, -4, "corner(-1)", () -> x.corner(-1));
        refused(x, -6, "corner(5)", () -> x.corner(5));
    }

    private static void flats() {
        FerryPlans x = pair();
        due("110 is not 120", x.flat(), 0);
        Checks.law(x, "!b1");
        due("PLAN 2: 80 and 85", x.flat(), 0);
        x.tell(0, 2, 0);
        due("PLAN 3: 20 and 20", x.flat(), 4);
        FerryPlans y = oneBadOf(3);
        for (int h = 0; h < 2; h++) y.tell(h, 1, 5);
        y.tell(2, 1, 10);
        y.move(2, 0, 0);
        y.move(2, 1, 0);
        // BEST is one ferry at 2: one of 0 and 1 may go BAD, or 2; not more.
        due("BEST", y.best(0), 16);
        due("flat at BUDGET 1", y.flat(), 1);
        Checks.law(y, "!b2|n<2");
        due("0 and 1 share what 2 has", y.flat(), 4);
        FerryPlans z = pair();
        Checks.law(z, "n>0");
        due("none of THE SET with BUDGET 0", z.flat(), -9);
        Checks.law(z, "n<1");
        due("no BEST", z.flat(), -9);
    }

    private static void words() {
        FerryPlans x = pair();
        due("foreknown(0, 0)", x.foreknown(0, 0), 120);
        due("foreknown(0, 1)", x.foreknown(0, 1), 0);
        FerryPlans y = oneBadOf(2);
        y.tell(1, 2, 60);
        due("BEST COST", y.best(1), 110);
        for (int h = 0; h < 2; h++) {
            due("the greater of two", y.foreknown(h, 0), 60);
            due("WORTH", y.foreknown(h, 1), 50);
        }
        Checks.law(y, "!b1");
        due("a part without WORLDS counts for nothing", y.foreknown(1, 0), 50);
        due("a part without WORLDS counts for nothing", y.foreknown(1, 1), 0);
        refused(y, -1, "foreknown(2, 7)", () -> y.foreknown(2, 7));
        refused(y, -1, "foreknown(-1, 0)", () -> y.foreknown(-1, 0));
        refused(y, -1, "foreknown(4, 0)", () -> y.foreknown(4, 0));
        refused(y, -2, "foreknown(0, 2)", () -> y.foreknown(0, 2));
        refused(y, -2, "foreknown(0, -1)", () -> y.foreknown(0, -1));
        Checks.law(y, "b1");
        due("THE SET is empty", y.foreknown(0, 0), -9);
        due("THE SET is empty", y.foreknown(0, 1), -9);
    }

    private static void dearestWords() {
        due("no HARBOURS", new FerryPlans().dearest(), -9);
        due("of several the least", oneBadOf(2).dearest(), 0);
        FerryPlans x = new FerryPlans();
        tellAll(x, 3, 0, 10, 50);
        due("the only one", x.dearest(), 3);
        FerryPlans y = oneBadOf(3);
        y.tell(0, 1, 0);
        due("the word of 0 is worth nothing", y.foreknown(0, 1), 0);
        due("that of 1 is", y.foreknown(1, 1), 50);
        due("dearest()", y.dearest(), 1);
        Checks.law(y, "b3");
        due("THE SET is empty", y.dearest(), -9);
    }

    private static void bearers() {
        FerryPlans x = ruledPair();
        due("who(1, 0)", x.who(1, 0), 1);
        due("who(1, 1)", x.who(1, 1), 9);
        due("who(12, 0)", x.who(12, 0), 0);
        due("who(12, 1)", x.who(12, 1), 11);
        due("none is LEFT: the least HARBOUR", x.who(15, 0), 0);
        due("none is LEFT", x.who(15, 1), 0);
        x.set(2, 0);
        due("in THE SET alone", x.who(12, 1), 4);
        refused(x, -1, "who(16, 4)", () -> x.who(16, 4));
        refused(x, -2, "who(0, 2)", () -> x.who(0, 2));
        refused(x, -2, "who(0, -1)", () -> x.who(0, -1));
        Checks.law(x, "n>0");
        due("THE SET is empty", x.who(0, 0), -9);
        due("THE SET is empty", x.who(0, 1), -9);
        due("no HARBOURS", new FerryPlans().who(0, 0), -9);
        due("no HARBOURS", new FerryPlans().who(0, 1), -9);
        FerryPlans y = oneBadOf(4);
        due("of several the least", y.who(0, 0), 0);
        due("of several the least", y.who(1, 0), 1);
        FerryPlans z = new FerryPlans();
        z.harbour(2);
        due("the least that is there", z.who(0, 0), 2);
    }

    private static void fewestWorlds() {
        FerryPlans x = pair();
        int[][] due = {{0, 1, 1}, {54, 1, 1}, {55, 1, 2}, {84, 1, 2}, {85, 1, 4}, {89, 1, 4}, {90, 1, 8}, {119, 1, 8}};
        for (int[] row : due) {
            due("none(" + row[0] + ", 0)", x.none(row[0], 0), row[1]);
            due("none(" + row[0] + ", 1)", x.none(row[0], 1), row[2]);
        }
        due("a PLAN bears it", x.none(120, 0), -9);
        due("a PLAN bears it", x.none(120, 1), -9);
        due("the greatest MARK", x.none(99999, 0), -9);
        due("two WORLDS", oneBadOf(2).none(99, 0), 2);
        due("two WORLDS", oneBadOf(2).none(99, 1), 2 + 4);
        due("a PLAN bears it", oneBadOf(2).none(100, 1), -9);
        due("three WORLDS", oneBadOf(3).none(149, 0), 3);
        due("three WORLDS", oneBadOf(3).none(149, 1), 2 + 4 + 16);
        due("two of three: the least number", oneBadOf(3).none(99, 1), 2 + 4);
        due("three of four: the least number", oneBadOf(4).none(149, 1), 2 + 4 + 16);
        due("four would be", oneBadOf(4).none(199, 0), -9);
        due("four would be", oneBadOf(4).none(199, 1), -9);
        refused(x, -2, "none(-1, 2)", () -> x.none(-1, 2));
        refused(x, -2, "none(100000, -1)", () -> x.none(100000, -1));
        refused(x, -4, "none(-1, 0)", () -> x.none(-1, 0));
        refused(x, -6, "none(100000, 1)", () -> x.none(100000, 1));
        Checks.law(x, "n=2");
        due("of THE SET alone", x.none(0, 1), 8);
        Checks.law(x, "n=1");
        due("THE SET is empty", x.none(0, 0), -9);
    }

    private static FerryPlans pairWithYears() {
        FerryPlans x = pairWithBudget(1);
        for (int world : new int[] {0, 3, 3, 1}) x.year(world);
        return x;
    }

    private static void years() {
        FerryPlans x = new FerryPlans();
        x.harbour(1);
        due("year(0)", x.year(0), 1);
        refused(x, -1, "year(1)", () -> x.year(1));
        refused(x, -1, "year(-1)", () -> x.year(-1));
        refused(x, -1, "year(16)", () -> x.year(16));
        for (int n = 2; n <= 60; n++) due("year(2)", x.year(2), n);
        refused(x, -6, "a year more", () -> x.year(2));
        refused(x, -1, "a year more of none", () -> x.year(4));
        due("YEARS", x.count(5), 60);
    }

    private static void outs() {
        due("no YEARS", new FerryPlans().out(), 0);
        FerryPlans x = pairWithYears();
        due("out()", x.out(), 2);
        x.set(2, 0);
        due("BUDGET 0", x.out(), 3);
        x.set(2, 2);
        due("BUDGET 2", x.out(), 0);
        Checks.law(x, "b0");
        due("law b0", x.out(), 1);
        Checks.law(x, "!b0");
        due("THE SET is empty", x.out(), 4);
    }

    private static void dearYears() {
        FerryPlans x = pairWithYears();
        due("dearYears(2)", x.dearYears(2), 2);
        due("as WORST is not above it", x.dearYears(3), 0);
        x.set(2, 0);
        due("BUDGET 0", x.dearYears(2), 3);
        refused(x, -1, "dearYears(16)", () -> x.dearYears(16));
        refused(x, -1, "dearYears(-1)", () -> x.dearYears(-1));
        refused(x, -1, "dearYears(256)", () -> x.dearYears(256));
        Checks.law(x, "n=1");
        due("THE SET is empty", x.dearYears(2), -9);
    }

    private static void drawnSets() {
        FerryPlans x = pairWithYears();
        int[] due = {0, 0, 1, 2, 2, -9};
        for (int n = 0; n < due.length; n++) due("drawn(" + n + ")", x.drawn(n), due[n]);
        due("drawn(60)", x.drawn(60), -9);
        due("BUDGET stays", x.out(), 2);
        refused(x, -4, "drawn(-1)", () -> x.drawn(-1));
        refused(x, -6, "drawn(61)", () -> x.drawn(61));
        Checks.law(x, "b0");
        due("law b0", x.drawn(1), 1);
        due("law b0", x.drawn(4), -9);
        due("none of them", x.drawn(0), 0);
        FerryPlans y = oneBadOf(4);
        y.year(15);
        due("all BAD", y.drawn(1), 4);
    }

    private static void images() {
        FerryPlans x = new FerryPlans();
        due("image() of a new object", x.image(), 0);
        x.harbour(0);
        x.harbour(2);
        due("HARBOURS", x.image(), 2);
        x.tell(0, 0, 5);
        due("changes may be UNDONE", x.image(), 2);
        due("behind an image, too", x.undo(), 1);
        due("the latest image is restored", x.restore(), 2);
        due("NEED as it was then", x.later(0, 0), 500);
    }

    private static void restores() {
        FerryPlans x = ruledPair();
        refused(x, -3, "restore() without an image", x::restore);
        Checks.law(x, "n<2");
        Checks.law(x, "n<1");
        x.holds(1, false);
        x.year(1);
        x.image();
        String before = stateOf(x);
        x.harbour(3);
        for (int what = 0; what < 6; what++) x.tell(0, what, 9);
        x.tell(3, 0, 50);
        x.move(0, 1, 50);
        x.move(0, 3, 1);
        x.set(0, 7);
        x.set(1, 70);
        x.set(2, 0);
        x.holds(0, false);
        x.holds(1, true);
        Checks.law(x, "b0");
        Checks.rule(x, 0, 9, "7");
        x.unrule(1);
        x.year(0);
        x.put(5);
        x.feed(2, 0);
        int refusals = x.count(13);
        CHECKS.that("all is another", !stateOf(x).equals(before));
        due("restore()", x.restore(), 2);
        CHECKS.that("all is as it was", stateOf(x).equals(before));
        due("the TEXT goes on", x.count(6), 2);
        due("the row goes on", x.count(7), 1);
        due("REFUSALS go on", x.count(13), refusals);
        due("no changes", x.count(8), 0);
        refused(x, -3, "undo() of nothing", x::undo);
        due("a harbour that was not there then", x.harbour(3), 1);
        due("its numbers are 0", x.tell(3, 0, 4), 0);
        due("its MOVE is 99", x.move(0, 3, 4), 99);
        due("restored again", x.restore(), 2);
        CHECKS.that("all is as it was again", stateOf(x).equals(before));
    }

    private static String stateOf(FerryPlans x) {
        StringBuilder all = new StringBuilder();
        for (int what = 0; what <= 5; what++) all.append(x.count(what)).append(' ');
        for (int world = 0; world < 16; world++) all.append(x.inSet(world));
        for (int plan = 0; plan < 16; plan++) {
            for (int world = 0; world < 4; world++) {
                all.append(' ').append(x.cost(plan, world)).append(' ').append(x.byRules(plan, world));
            }
        }
        for (int day = 0; day < 10; day++) all.append(' ').append(x.promise(1, day, 0));
        for (int n = 0; n < 4; n++) all.append(' ').append(x.drawn(n));
        return all.toString();
    }

    private static void counts() {
        FerryPlans x = pairWithYears();
        Checks.law(x, "n<9");
        Checks.law(x, "n<8");
        Checks.law(x, "n<7");
        x.holds(1, false);
        Checks.rule(x, 0, 9, "1");
        x.feed(5, 0);
        x.put(1);
        x.put(2);
        int[] due = {2, 3, 2, 1, 3, 4, 5, 2, 15};
        for (int what = 0; what < due.length; what++) due("count(" + what + ")", x.count(what), due[what]);
        x.harbour(0);
        for (int i = 0; i < 2; i++) x.harbour(9);
        for (int i = 0; i < 3; i++) x.best(9);
        for (int i = 0; i < 4; i++) x.corner(-1);
        for (int i = 0; i < 5; i++) x.corner(9);
        int[] refusals = {2, 3, 1, 4, 0, 5};
        for (int i = 0; i < 6; i++) due("count(" + (11 + i) + ")", x.count(11 + i), refusals[i]);
        for (int what : new int[] {-1, 9, 10, 17, LEAST, MOST}) due("count(" + what + ")", x.count(what), -9);
        for (int i = 0; i < 6; i++) due("another what is no refusal", x.count(11 + i), refusals[i]);
    }
}
