/** Part I of the document: harbours, their numbers, worlds, plans, LATER, COST, WORST, BEST; promises 1 to 5, 12 to 16. */
final class EdgesOfTerms {
    private static final int LEAST = Run.LEAST;
    private static final int MOST = Run.MOST;
    private static final int[] ALL = {0, 1, 2, 3};

    private EdgesOfTerms() {
    }

    static void all() {
        newObject();
        harbours();
        numbersOfHarbours();
        whatTheNumbersDo();
        tells();
        moves();
        sets();
        budgets();
        worlds();
        plans();
        laters();
        latersByTies();
        costs();
        worsts();
        bests();
    }

    private static Run test(int promise, String sentence) {
        return Edges.test(promise, sentence);
    }

    private static void newObject() {
        Run x = test(1, "No HARBOURS.");
        for (int what = 0; what <= 8; what++) x.due(what == 4 ? 1 : 0, "count", what);
        for (int what = 11; what <= 16; what++) x.due(0, "count", what);
        x.set(1);
        for (int h : ALL) x.no(-1, "tell", h, 0, 0).no(-1, "unrule", h).no(-1, "rule", h, 0).no(-1, "foreknown", h, 0);
        for (int plan : new int[] {1, 4, 16, 64, 255}) x.no(-1, "later", plan, 0);
        for (int world : new int[] {1, 2, 4, 8, 15}) x.no(-1, "later", 0, world);
        x.no(-1, "move", 0, 1, 0).no(-1, "holds", 0, 1).no(-3, "undo").no(-3, "restore").no(-3, "prove", 0, 0);
        x.due(0, "later", 0, 0).due(0, "cost", 0, 0).due(0, "worst", 0, 0).due(0, "worst", 0, 1);
        x.due(0, "best", 0).due(0, "best", 1).due(0, "byRules", 0, 0).due(0, "ruled", 0, 0).due(0, "ruled", 0, 1);
        x.due(0, "promise", 0, 0, 0).due(0, "corner", 0).due(4, "flat").due(-9, "dearest").due(-9, "who", 0, 0);
        x.due(-9, "none", 0, 0).due(0, "out").due(0, "dearYears", 0).due(0, "drawn", 0).due(-9, "drawn", 1);
        int[] closed = {0, 0, 0, 1, 1, 1};
        for (int what = 0; what < 6; what++) x.due(closed[what], "close", 1, what);
    }

    private static void harbours() {
        Run x = test(2, "HARBOURS 0 .. 3, each told (or not there):");
        x.no(-1, "harbour", -1).no(-1, "harbour", 4).no(-1, "harbour", LEAST).no(-1, "harbour", MOST);
        x.due(1, "harbour", 0).due(1, "harbour", 3).due(2, "count", 0);
        x.no(-1, "tell", 1, 0, 1).no(-1, "tell", 2, 0, 1);
        x.no(-1, "harbour", -1).no(-1, "harbour", 4);
        x.due(1, "harbour", 2).due(1, "harbour", 1).due(4, "count", 0);
        x.no(-1, "harbour", 4).no(-1, "harbour", -1);

        x = test(2, "A HARBOUR is there: 1.");
        for (int h : ALL) {
            x.no(-1, "tell", h, 0, 5).due(1, "harbour", h).due(h + 1, "count", 0).due(0, "tell", h, 0, 5);
        }
        x.due(4, "count", 8).due(16, "count", 4);

        x = test(2, "-1; -3 it is.");
        for (int h : ALL) x.due(1, "harbour", h).no(-3, "harbour", h).no(-1, "harbour", 4).no(-1, "harbour", -1);
        x.with("tell", 2, 0, 7).no(-3, "harbour", 2).due(7, "tell", 2, 0, 8).due(2, "count", 8);

        x = test(2, "(All its numbers 0, LIMIT too.)");
        for (int h : ALL) {
            x.with("harbour", h);
            for (int what = 0; what < 6; what++) x.due(0, "tell", h, what, 0);
        }
        x = test(2, "(All its numbers 0, LIMIT too.)").harbours(0).with("tell", 0, 0, 1);
        x.due(100, "later", 0, 0).with("tell", 0, 4, 1).due(0, "later", 0, 0);
        x = test(2, "(All its numbers 0, LIMIT too.)").with("image").told(1, 9, 9, 9, 9, 9, 9).with("restore");
        x.with("harbour", 1);
        for (int what = 0; what < 6; what++) x.due(0, "tell", 1, what, 3);
    }

    private static void numbersOfHarbours() {
        bounds(0, 99, "NEED (0 .. 99),");
        bounds(1, 99, "MORE that it needs if it goes BAD (0 .. 99),");
        bounds(2, 999, "PRICE of a ferry (0 .. 999),");
        bounds(3, 99, "DEAR: what a unit costs later (0 .. 99),");
        bounds(4, 99, "LIMIT of what can be had so later (0 .. 99),");
        bounds(5, 9, "DAY on which it is SEEN whether it is BAD (0 .. 9).");
    }

    private static void bounds(int what, int most, String sentence) {
        for (int h : ALL) {
            Run x = test(3, sentence).harbours(h);
            x.no(-4, "tell", h, what, -1).no(-6, "tell", h, what, most + 1);
            x.due(0, "tell", h, what, most).no(-6, "tell", h, what, most + 1).no(-4, "tell", h, what, -1);
            x.due(most, "tell", h, what, 0).no(-4, "tell", h, what, LEAST).no(-6, "tell", h, what, MOST);
            x.due(0, "tell", h, what, 1).due(1, "tell", h, what, most - 1).due(most - 1, "tell", h, what, most);
        }
    }

    private static void whatTheNumbersDo() {
        for (int h : ALL) {
            int bad = 1 << h;
            Run x = test(13, "NEED (0 .. 99),").harbours(h);
            x.due(0, "later", 0, 0).with("tell", h, 0, 99).due(9900, "later", 0, 0).due(9900, "later", 0, bad);
            x = test(13, "MORE that it needs if it goes BAD (0 .. 99),").harbours(h);
            x.due(0, "later", 0, bad).with("tell", h, 1, 99).due(9900, "later", 0, bad).due(0, "later", 0, 0);
            x.with("tell", h, 0, 99).due(9900, "later", 0, 0).due(19800, "later", 0, bad);
            x = test(14, "PRICE of a ferry (0 .. 999),").harbours(h);
            x.due(0, "cost", 3 << 2 * h, 0).with("tell", h, 2, 999).due(999, "cost", 1 << 2 * h, 0);
            x.due(2997, "cost", 3 << 2 * h, 0).due(0, "later", 3 << 2 * h, 0);
            x = test(13, "DEAR: what a unit costs later (0 .. 99),").told(h, 50, 0, 0, 0, 99);
            x.due(0, "later", 0, 0).with("tell", h, 3, 99).due(50 * 99, "later", 0, 0);
            x = test(13, "LIMIT of what can be had so later (0 .. 99),").told(h, 99, 99, 0, 1, 0);
            x.due(9900, "later", 0, 0).with("tell", h, 4, 1).due(1 + 9800, "later", 0, 0);
            x.with("tell", h, 4, 98).due(98 + 100, "later", 0, 0);
            x.with("tell", h, 4, 99).due(99, "later", 0, 0).due(99 + 9900, "later", 0, bad);
            x = test(10, "DAY on which it is SEEN whether it is BAD (0 .. 9).").harbours(h);
            String seen = "s" + h;
            x.rule(1, h, 0, seen).with("tell", h, 5, 9).rule(-21, h, 8, seen).rule(1, h, 9, seen);
        }
    }

    private static void tells() {
        Run x = test(3, "What of a HARBOUR: 0 NEED, 1 MORE, 2 PRICE, 3 DEAR, 4 LIMIT, 5 DAY becomes v: what it was.");
        x.told(1, 11, 12, 13, 14, 15, 6).told(2, 21, 22, 23, 24, 25, 7);
        int[] one = {11, 12, 13, 14, 15, 6};
        int[] two = {21, 22, 23, 24, 25, 7};
        for (int what = 0; what < 6; what++) x.due(one[what], "tell", 1, what, one[what]).due(two[what], "tell", 2, what, 0);
        for (int what = 0; what < 6; what++) x.due(one[what], "tell", 1, what, 0).due(0, "tell", 2, what, 0);
        x.no(-2, "tell", 1, -1, 0).no(-2, "tell", 1, 6, 0).no(-2, "tell", 1, LEAST, 0).no(-2, "tell", 1, MOST, 0);

        x = test(3, "-1; -2; -4; -6.").harbours(1);
        for (int h : new int[] {-1, 0, 2, 3, 4, LEAST, MOST}) {
            x.no(-1, "tell", h, 0, 5).no(-1, "tell", h, 6, 5).no(-1, "tell", h, 0, -1).no(-1, "tell", h, 0, 100);
            x.no(-1, "tell", h, -1, -1);
        }
        for (int what : new int[] {-1, 6, LEAST, MOST}) {
            x.no(-2, "tell", 1, what, 5).no(-2, "tell", 1, what, -1).no(-2, "tell", 1, what, 1000);
        }
        for (int what = 0; what < 6; what++) x.no(-4, "tell", 1, what, -1).no(-6, "tell", 1, what, 1000);
    }

    private static void moves() {
        String bounds = "MOVE: what a unit costs from one HARBOUR to another (0 .. 99; told one way; 99 at first).";
        Run x = test(4, bounds).harbours(ALL);
        for (int from : ALL) {
            for (int to : ALL) if (from != to) x.due(99, "move", from, to, 10 * from + to);
        }
        for (int from : ALL) {
            for (int to : ALL) if (from != to) x.due(10 * from + to, "move", from, to, 99);
        }
        x.no(-4, "move", 3, 0, -1).no(-6, "move", 3, 0, 100).due(99, "move", 3, 0, 0).due(0, "move", 3, 0, 99);
        x.no(-4, "move", 3, 0, LEAST).no(-6, "move", 3, 0, MOST);
        // Two lack what two have to move: one way costs what it was told, the other way 99.
        x = test(13, bounds).told(0, 5).told(1, 5).with("move", 0, 1, 0);
        x.due(0, "later", 1, 0).due(5 * 99, "later", 4, 0).with("move", 1, 0, 99).due(5 * 99, "later", 4, 0);
        x.with("move", 1, 0, 98).due(5 * 98, "later", 4, 0).due(0, "later", 1, 0);

        x = test(4, "MOVE: what it was.").harbours(0, 2);
        x.due(99, "move", 0, 2, 7).due(99, "move", 2, 0, 8).due(7, "move", 0, 2, 7).due(8, "move", 2, 0, 0);
        x.due(7, "move", 0, 2, 1).due(5, "count", 8);

        x = test(4, "-1 (one twice, too); -4; -6.").harbours(0, 2);
        for (int h : new int[] {-1, 1, 3, 4, LEAST, MOST}) {
            x.no(-1, "move", 0, h, 5).no(-1, "move", h, 2, 5).no(-1, "move", h, h, 5).no(-1, "move", h, 0, -1);
            x.no(-1, "move", 2, h, 100);
        }
        for (int v : new int[] {5, -1, 100}) x.no(-1, "move", 0, 0, v).no(-1, "move", 2, 2, v);
        x.no(-4, "move", 0, 2, -1).no(-6, "move", 0, 2, 100).no(-4, "move", 2, 0, LEAST).no(-6, "move", 2, 0, MOST);
    }

    private static void sets() {
        Run x = test(5, "A ferry CARRIES so many units (1 .. 50; 10 at first).").told(0, 99);
        x.due(8900, "later", 1, 0).no(-4, "set", 0, 0).no(-6, "set", 0, 51).due(10, "set", 0, 1);
        x.due(9800, "later", 1, 0).no(-4, "set", 0, -1).no(-4, "set", 0, LEAST).no(-6, "set", 0, MOST);
        x.due(1, "set", 0, 50).due(4900, "later", 1, 0).due(0, "later", 2, 0).no(-6, "set", 0, 51).no(-4, "set", 0, 0);
        x.due(50, "set", 0, 49).due(100, "later", 2, 0);

        x = test(5, "LEFT: what a unit that lacks costs (0 .. 999; 100 at first).").told(0, 99);
        x.due(9900, "later", 0, 0).no(-4, "set", 1, -1).no(-6, "set", 1, 1000).due(100, "set", 1, 0);
        x.due(0, "later", 0, 0).no(-4, "set", 1, LEAST).no(-6, "set", 1, MOST).due(0, "set", 1, 999);
        x.due(99 * 999, "later", 0, 0).no(-6, "set", 1, 1000).no(-4, "set", 1, -1).due(999, "set", 1, 1);
        x.due(99, "later", 0, 0);

        x = test(5, "CARRIES (what 0), LEFT (1), BUDGET (2) becomes v: what it was.").harbours(0);
        x.due(10, "set", 0, 3).due(100, "set", 1, 4).due(4, "set", 2, 0);
        x.due(3, "set", 0, 3).due(4, "set", 1, 2).due(0, "set", 2, 1).due(3, "set", 0, 1).due(2, "set", 1, 0);
        x.due(1, "set", 2, 4).due(9, "count", 8);

        x = test(5, "-2; -4; -6.").harbours(0);
        for (int what : new int[] {-1, 3, LEAST, MOST}) {
            x.no(-2, "set", what, 2).no(-2, "set", what, -1).no(-2, "set", what, 1000);
        }
        int[] below = {0, -1, -1};
        int[] above = {51, 1000, 5};
        for (int what = 0; what < 3; what++) x.no(-4, "set", what, below[what]).no(-6, "set", what, above[what]);
    }

    private static void budgets() {
        String words = "THE SET: WORLDS with at most BUDGET BAD (0 .. 4; 4 at first) for which all LAWS hold.";
        Run x = test(5, words).harbours(ALL);
        x.no(-4, "set", 2, -1).no(-6, "set", 2, 5).due(16, "count", 4).due(4, "set", 2, 0);
        int[] many = {1, 5, 11, 15, 16};
        for (int budget = 0; budget <= 4; budget++) x.due(budget, "set", 2, budget == 4 ? 4 : budget + 1);
        x.due(16, "count", 4).no(-4, "set", 2, LEAST).no(-6, "set", 2, MOST);
        for (int budget = 4; budget >= 0; budget--) x.with("set", 2, budget).due(many[budget], "count", 4);

        x = test(12, words).harbours(ALL).set(0xFFFF).with("set", 2, 3).set(0x7FFF);
        x.with("set", 2, 2).set(0x177F).with("set", 2, 1).set(0x0117).with("set", 2, 0).set(0x0001);
        // Without LAWS, with some, with LAWS that all WORLDS or none keep, and with LAWS that hold no more.
        x = test(12, words).harbours(ALL).law(0, "b0").set(0xAAAA).law(1, "b1").set(0x8888).law(2, "n<9").set(0x8888);
        x.with("set", 2, 2).set(0x0008).with("set", 2, 1).set(0).law(3, "n>9").with("set", 2, 4).set(0);
        x.with("holds", 3, 0).with("holds", 0, 0).with("holds", 1, 0).set(0xFFFF);

        x = test(12, "Whether a WORLD (0 .. 15) is in THE SET (0 also with BAD ones that are not there): 1, 0.");
        x.set(0x0001).harbours(3).set(0x0101).harbours(1).set(0x0505).harbours(0).set(0x0F0F).harbours(2).set(0xFFFF);
        x = test(12, "Whether a WORLD (0 .. 15) is in THE SET (0 also with BAD ones that are not there): 1, 0.");
        x.harbours(0).asks(1, "inSet", 0).asks(1, "inSet", 1).asks(0, "inSet", 2).asks(0, "inSet", 15);

        x = test(12, "-1.").harbours(ALL);
        x.no(-1, "inSet", -1).no(-1, "inSet", 16).no(-1, "inSet", LEAST).no(-1, "inSet", MOST);
        x.asks(1, "inSet", 0).asks(1, "inSet", 15);
    }

    /** The calls of a WORLD, with a PLAN 0 before it or a DAY between where they take one. */
    private static void worlds() {
        String words = "A WORLD: HARBOURS that go BAD (bits 0 .. 15; of those that are there alone).";
        int[] promises = {13, 14, 17, 22, 29};
        for (int promise : promises) {
            Run x = test(promise, words);
            for (int world : new int[] {1, 2, 4, 8, 15, 16, -1, LEAST, MOST}) noWorld(x, promise, world);
            someWorld(x, promise, 0);
            x.harbours(3);
            for (int world : new int[] {1, 2, 4, 7, 9, 12, 15, 16, 24, -8, -1, LEAST, MOST}) noWorld(x, promise, world);
            someWorld(x, promise, 8);
            x.harbours(0, 1, 2);
            for (int world = 0; world < 16; world++) someWorld(x, promise, world);
            for (int world : new int[] {16, 31, -1, -16, LEAST, MOST}) noWorld(x, promise, world);
        }
        Run x = test(21, words).harbours(1).row(new int[12]);
        for (int world : new int[] {1, 3, 4, 8, 15, 16, 18, -1, -2, LEAST, MOST}) x.no(-1, "prove", 0, world);
        x.due(0, "prove", 0, 2);
    }

    private static void noWorld(Run x, int promise, int world) {
        switch (promise) {
            case 13: x.no(-1, "later", 0, world); break;
            case 14: x.no(-1, "cost", 0, world); break;
            case 17: x.no(-1, "byRules", 0, world); break;
            case 22: x.no(-1, "promise", 0, 0, world); break;
            default: x.no(-1, "year", world);
        }
    }

    private static void someWorld(Run x, int promise, int world) {
        switch (promise) {
            case 13: x.due(0, "later", 0, world); break;
            case 14: x.due(0, "cost", 0, world); break;
            case 17: x.due(0, "byRules", 0, world); break;
            case 22: x.due(0, "promise", 0, 0, world); break;
            default: x.due(x.get("count", 5) + 1, "year", world);
        }
    }

    private static void plans() {
        String words = "A PLAN: ferries at each HARBOUR (0 .. 3), as places to the base 4 (HARBOUR 0 the lowest: "
            + "0 .. 255); one with ferries where no HARBOUR is, is none.";
        int[] promises = {13, 14, 15, 17, 18, 22, 27, 31};
        for (int promise : promises) {
            Run x = test(promise, words);
            for (int plan : new int[] {1, 64, 255, 256, -1}) noPlan(x, promise, plan);
            x.harbours(1, 2);
            for (int plan : new int[] {1, 2, 3, 5, 64, 65, 128, 192, 255, 256, 260, -1, -4, LEAST, MOST}) {
                noPlan(x, promise, plan);
            }
            for (int plan : new int[] {0, 4, 12, 16, 48, 60}) somePlan(x, promise, plan);
            x.harbours(0, 3);
            for (int plan : new int[] {0, 1, 3, 85, 170, 192, 255}) somePlan(x, promise, plan);
            for (int plan : new int[] {256, 511, -1, -256, LEAST, MOST}) noPlan(x, promise, plan);
        }
        Run x = test(21, words).harbours(2).row(new int[12]);
        for (int plan : new int[] {1, 4, 15, 64, 255, 256, 272, -1, LEAST, MOST}) x.no(-1, "prove", plan, 0);
        x.due(0, "prove", 48, 0);
        // Each ferry is counted at its own harbour: PRICES 1, 10, 100, 900.
        x = test(14, words).told(0, 0, 0, 1).told(1, 0, 0, 10).told(2, 0, 0, 100).told(3, 0, 0, 900);
        x.due(1, "cost", 1, 0).due(3, "cost", 3, 0).due(10, "cost", 4, 0).due(30, "cost", 12, 0);
        x.due(100, "cost", 16, 0).due(300, "cost", 48, 0).due(900, "cost", 64, 0).due(2700, "cost", 192, 0);
        x.due(3033, "cost", 255, 0).due(0, "cost", 0, 0).due(2 + 10 + 300, "cost", 2 + 4 + 48, 0);
    }

    private static void noPlan(Run x, int promise, int plan) {
        switch (promise) {
            case 13: x.no(-1, "later", plan, 0); break;
            case 14: x.no(-1, "cost", plan, 0); break;
            case 15: x.no(-1, "worst", plan, 0); break;
            case 17: x.no(-1, "byRules", plan, 0); break;
            case 18: x.no(-1, "ruled", plan, 0); break;
            case 22: x.no(-1, "promise", plan, 0, 0); break;
            case 27: x.no(-1, "who", plan, 1); break;
            default: x.no(-1, "dearYears", plan);
        }
    }

    private static void somePlan(Run x, int promise, int plan) {
        switch (promise) {
            case 13: x.due(0, "later", plan, 0); break;
            case 14: x.due(0, "cost", plan, 0); break;
            case 15: x.due(0, "worst", plan, 0); break;
            case 17: x.due(0, "byRules", plan, 0); break;
            case 18: x.due(0, "ruled", plan, 0); break;
            case 22: x.due(0, "promise", plan, 0, 0); break;
            case 27: x.due(0, "who", plan, 1); break;
            default: x.due(0, "dearYears", plan);
        }
    }

    private static void laters() {
        String who = "LATER for a PLAN in a WORLD: HARBOURS with more than they need have the rest to move, others lack some.";
        // 0 has 10 with a ferry, 1 lacks 2; MOVE costs nothing.
        Run x = test(13, who).told(0, 11).told(1, 2).with("move", 0, 1, 0).with("move", 1, 0, 0);
        x.due(100 + 200, "later", 1, 0).with("tell", 0, 0, 10).due(200, "later", 1, 0);
        x.with("tell", 0, 0, 9).due(100, "later", 1, 0).with("tell", 0, 0, 8).due(0, "later", 1, 0);
        x.with("tell", 0, 0, 7).due(0, "later", 1, 0);
        // What goes BAD is needed, too: MORE takes what was to move.
        x = test(13, who).told(0, 4, 5).told(1, 9).with("move", 0, 1, 3);
        x.due(6 * 3 + 300, "later", 1, 0).due(3 + 800, "later", 1, 1).with("tell", 0, 1, 6).due(900, "later", 1, 1);
        x.with("tell", 0, 1, 7).due(1000, "later", 1, 1);

        String least = "The least cost: each unit that lacks is moved (MOVE), had there (DEAR, at most LIMIT), or lacks (LEFT).";
        x = test(13, least).told(0, 5, 0, 0, 7, 4);
        x.due(28 + 100, "later", 0, 0).with("tell", 0, 4, 5).due(35, "later", 0, 0).with("tell", 0, 4, 6);
        x.due(35, "later", 0, 0).with("tell", 0, 4, 0).due(500, "later", 0, 0);
        // The nearest first, then DEAR, then LEFT: 3 to move at 2, 1 to move at 6, 2 to have at 7, 4 left.
        x = test(13, least).told(0, 7).told(1, 9).told(2, 10, 0, 0, 7, 2).with("move", 0, 2, 2).with("move", 1, 2, 6);
        x.due(6 + 6 + 14 + 400, "later", 5, 0);
        x.with("set", 1, 1).due(10, "later", 5, 0).with("set", 1, 0).due(0, "later", 5, 0).due(0, "later", 0, 0);
        // Only one has some, three lack: it goes where it saves most.
        x = test(13, least).told(0, 0).told(1, 4, 0, 0, 9, 99).told(2, 4, 0, 0, 50, 99).told(3, 4, 0, 0, 30, 99);
        for (int to = 1; to < 4; to++) x.with("move", 0, to, 1);
        x.due(4 + 4 + 2 + 2 * 9, "later", 1, 0).with("set", 0, 1).due(1 + 3 * 50 + 4 * 30 + 4 * 9, "later", 1, 0);
        x.due(3 + 1 * 50 + 4 * 30 + 4 * 9, "later", 3, 0).with("set", 0, 4).due(4 + 4 + 4, "later", 3, 0);
        // Three have some, one lacks.
        x = test(13, least).told(0, 6).told(1, 7).told(2, 8).told(3, 10);
        x.with("move", 0, 3, 30).with("move", 1, 3, 20).with("move", 2, 3, 10);
        x.due(2 * 10 + 3 * 20 + 4 * 30 + 100, "later", 21, 0);
        // Nothing comes by way of a third: 0 to 1 and 1 to 2 cost nothing, 0 to 2 costs 99.
        x = test(13, least).told(0, 0).told(1, 0).told(2, 5).with("move", 0, 1, 0).with("move", 1, 2, 0);
        x.due(5 * 99, "later", 1, 0).due(0, "later", 4, 0);
        x = test(13, least).harbours(ALL);
        for (int h : ALL) x.with("tell", h, 0, 99).with("tell", h, 1, 99);
        x.with("set", 1, 999).due(4 * 198 * 999, "later", 0, 15).due(4 * 99 * 999, "later", 0, 0);
        Run y = test(13, "LATER of a PLAN in a WORLD (of HARBOURS that are there).").told(1, 3, 4);
        y.asks(300, "later", 0, 0).asks(700, "later", 0, 2).asks(0, "later", 4, 2).no(-1, "later", 0, 1);
        y.no(-1, "later", 0, 3);
        y = test(13, "-1.").harbours(0).no(-1, "later", 4, 0).no(-1, "later", 0, 2).no(-1, "later", 4, 2);
        y.no(-1, "later", LEAST, MOST).no(-1, "later", MOST, LEAST).asks(0, "later", 3, 1);
    }

    /** Where two ways cost the same it does not matter which is gone, and a unit that was moved may be wanted elsewhere. */
    private static void latersByTies() {
        String least = "The least cost: each unit that lacks is moved (MOVE), had there (DEAR, at most LIMIT), or lacks (LEFT).";
        Run x = test(13, least).told(0, 0).told(1, 10, 0, 0, 5, 10).with("move", 0, 1, 5).with("set", 1, 5);
        x.due(50, "later", 1, 0).with("set", 1, 4).due(40, "later", 1, 0).with("set", 1, 6).due(50, "later", 1, 0);
        x.with("move", 0, 1, 4).due(40, "later", 1, 0).with("move", 0, 1, 6).due(50, "later", 1, 0);
        // 2 takes from 0 though 1 is its only other giver; 3 can take from 0 alone.
        x = test(13, least).told(0, 0).told(1, 0).told(2, 10).told(3, 10);
        x.with("move", 0, 2, 1).with("move", 1, 2, 2).with("move", 0, 3, 50).with("move", 1, 3, 99);
        x.due(10 * 2 + 10 * 50, "later", 5, 0).with("move", 1, 2, 49).due(10 * 49 + 10 * 50, "later", 5, 0);
        x.with("move", 1, 2, 51).due(10 * 1 + 10 * 99, "later", 5, 0).with("move", 1, 2, 50);
        x.due(10 * 50 + 10 * 50, "later", 5, 0);
        // The same with 0 and 1 in each other's place, and with fewer units at 2.
        x = test(13, least).told(0, 0).told(1, 0).told(2, 10).told(3, 10);
        x.with("move", 1, 2, 1).with("move", 0, 2, 2).with("move", 1, 3, 50).with("move", 0, 3, 99);
        x.due(10 * 2 + 10 * 50, "later", 5, 0).with("tell", 2, 0, 6).due(6 * 2 + 10 * 50, "later", 5, 0);
        x.with("tell", 3, 0, 7).due(3 * 1 + 3 * 2 + 7 * 50, "later", 5, 0);
        // One gives to three: each that lacks later has a better use of what was moved to the one before.
        x = test(13, least).told(0, 0).told(1, 10, 0, 0, 10, 99).told(2, 10, 0, 0, 20, 99).told(3, 10, 0, 0, 30, 99);
        for (int to = 1; to < 4; to++) x.with("move", 0, to, 1);
        x.due(10 * 10 + 10 * 20 + 10 * 1, "later", 1, 0).with("tell", 2, 4, 4);
        x.due(10 * 10 + (4 * 20 + 6 * 1) + (4 * 1 + 6 * 30), "later", 1, 0).with("tell", 3, 4, 5);
        x.due(10 * 10 + (4 * 20 + 5 * 1 + 1 * 100) + (5 * 1 + 5 * 30), "later", 1, 0);
    }

    private static void costs() {
        Run x = test(14, "COST: ferries times PRICE, and LATER.").harbours(ALL);
        for (int h : ALL) x.with("tell", h, 0, 99).with("tell", h, 1, 99).with("tell", h, 2, 999);
        x.with("set", 1, 999).with("set", 0, 1);
        x.due(4 * 198 * 999, "cost", 0, 15).due(12 * 999 + 4 * 195 * 999, "cost", 255, 15);
        x.due(12 * 999 + 4 * 96 * 999, "cost", 255, 0).with("set", 1, 0).due(12 * 999, "cost", 255, 15);
        x.due(0, "cost", 0, 15);
        x = test(14, "COST.").told(0, 5, 6, 7).asks(500, "cost", 0, 0).asks(7, "cost", 1, 0).asks(7 + 100, "cost", 1, 1);
        x.with("set", 2, 0).asks(7 + 100, "cost", 1, 1);
        x = test(14, "-1.").harbours(0).no(-1, "cost", 4, 0).no(-1, "cost", 0, 2).no(-1, "cost", 4, 2);
        x.no(-1, "cost", LEAST, MOST).no(-1, "cost", MOST, LEAST).asks(0, "cost", 3, 1);
    }

    private static void worsts() {
        String words = "WORST of a PLAN: the greatest COST over THE SET, of several the least WORLD. "
            + "(With THE SET empty there is none.)";
        Run x = test(15, words).told(0, 0, 3, 1).told(1, 0, 3, 1).told(2, 0, 2, 1).told(3, 0, 9, 1);
        x.due(1700, "worst", 0, 0).due(15, "worst", 0, 1).with("set", 2, 3).due(1500, "worst", 0, 0);
        x.due(11, "worst", 0, 1).with("set", 2, 2).due(1200, "worst", 0, 0).due(9, "worst", 0, 1);
        x.with("set", 2, 1).due(900, "worst", 0, 0).due(8, "worst", 0, 1).with("set", 2, 0).due(0, "worst", 0, 0);
        x.due(0, "worst", 0, 1).with("set", 2, 1).law(0, "!b3").due(300, "worst", 0, 0).due(1, "worst", 0, 1);
        x.law(1, "!b0").due(300, "worst", 0, 0).due(2, "worst", 0, 1).law(2, "!b1").due(200, "worst", 0, 0);
        x.due(4, "worst", 0, 1).law(3, "n=0").due(0, "worst", 0, 0).due(0, "worst", 0, 1);
        x.law(4, "n>0").due(-9, "worst", 0, 0).due(-9, "worst", 0, 1);
        // All cost the same: the least of the set, be it 0 or not.
        x = test(15, words).harbours(ALL).due(0, "worst", 0, 1).law(0, "n>2").due(7, "worst", 0, 1);
        x.law(1, "b3").due(11, "worst", 0, 1).law(2, "n>3").due(15, "worst", 255, 1).due(0, "worst", 255, 0);

        x = test(15, "WORST: the COST (what 0), the WORLD (1); -9 none.").told(0, 0, 2);
        x.asks(200, "worst", 0, 0).asks(1, "worst", 0, 1).asks(0, "worst", 1, 0).asks(0, "worst", 1, 1).law(0, "b9");
        x.asks(-9, "worst", 0, 0).asks(-9, "worst", 0, 1);

        x = test(15, "-1; -2.").harbours(0);
        for (int what : new int[] {-1, 2, LEAST, MOST}) x.no(-2, "worst", 0, what).no(-1, "worst", 4, what);
        x.no(-1, "worst", 4, 0).no(-1, "worst", -1, 1).law(0, "b9").no(-1, "worst", 4, 0).no(-2, "worst", 0, 2);
        x.no(-1, "worst", 256, 2);
    }

    private static void bests() {
        String words = "BEST: the PLAN with the least WORST, of several the least number.";
        Run x = test(16, words).harbours(ALL).due(0, "best", 0).due(0, "best", 1);
        for (int h : ALL) x.with("tell", h, 0, 30);
        x.due(255, "best", 0).due(0, "best", 1).with("tell", 3, 0, 0).due(63, "best", 0).with("tell", 0, 0, 29);
        x.due(63, "best", 0).with("tell", 0, 0, 20).due(62, "best", 0).with("set", 0, 50).due(21, "best", 0);
        // PRICE 100 for ten units that are 10 each to leave: with or without it costs the same, the least number is 0.
        x = test(16, words).told(1, 10, 0, 100).with("set", 1, 10).due(0, "best", 0).due(100, "best", 1);
        x.with("tell", 1, 2, 99).due(4, "best", 0).due(99, "best", 1).with("tell", 1, 2, 101).due(0, "best", 0);
        x.due(100, "best", 1);
        x = test(16, words).told(0, 99, 99, 999).told(3, 99, 99, 999).with("set", 1, 999).with("set", 0, 50);
        x.due(195, "best", 0).due(6 * 999 + 2 * 48 * 999, "best", 1);

        x = test(16, "BEST: the PLAN (what 0), its WORST (1); -9 none.").told(0, 5, 0, 30);
        x.asks(1, "best", 0).asks(30, "best", 1).law(0, "b0").asks(1, "best", 0).asks(30, "best", 1).law(1, "!b0");
        x.asks(-9, "best", 0).asks(-9, "best", 1);

        x = test(16, "-2.").harbours(0);
        for (int what : new int[] {-1, 2, LEAST, MOST}) x.no(-2, "best", what);
        x.law(0, "b9").no(-2, "best", 2).no(-2, "best", -1).asks(-9, "best", 0);
    }
}
