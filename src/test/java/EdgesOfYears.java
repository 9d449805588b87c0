/** Part V of the document: YEARS, CHANGES taken back, THE IMAGE, what is counted; promises 6 and 29 to 35. */
final class EdgesOfYears {
    private static final int LEAST = Run.LEAST;
    private static final int MOST = Run.MOST;
    private static final int[] ALL = {0, 1, 2, 3};

    private EdgesOfYears() {
    }

    static void all() {
        changes();
        fortyChanges();
        noChanges();
        undoes();
        years();
        outs();
        dearYears();
        drawn();
        images();
        imageKeepsAll();
        whatGoesOn();
        restores();
        counts();
        calls();
    }

    private static Run test(int promise, String sentence) {
        return Edges.test(promise, sentence);
    }

    private static void changes() {
        String words = "CHANGES of NEED, MORE, PRICE, DEAR, LIMIT, DAY, MOVE, LEFT, CARRIES, BUDGET: each that was told "
            + "(also to what it was) may be taken back (UNDONE), the latest first (40 at most are kept).";
        for (int what = 0; what < 6; what++) {
            Run x = test(6, words).harbours(0, 1).with("tell", 1, what, 3).with("tell", 1, what, 5).with("tell", 1, what, 5);
            x.due(3, "count", 8).due(1, "undo").due(2, "count", 8).due(1, "undo").due(1, "count", 8);
            x.due(3, "tell", 1, what, 9).due(1, "undo").due(1, "undo").no(-3, "undo").due(0, "tell", 1, what, 9);
        }
        Run x = test(6, words).harbours(0, 1).with("move", 0, 1, 5).with("move", 1, 0, 6).with("move", 0, 1, 5);
        x.due(1, "undo").due(1, "undo").due(5, "move", 0, 1, 5).due(99, "move", 1, 0, 6).due(1, "undo").due(1, "undo");
        x.due(1, "undo").no(-3, "undo").due(99, "move", 0, 1, 1);
        int[] first = {10, 100, 4};
        for (int what = 0; what < 3; what++) {
            x = test(6, words).with("set", what, 3).with("set", what, 3).with("set", what, 2).due(3, "count", 8);
            x.due(1, "undo").due(1, "undo").due(3, "set", what, 1).due(1, "undo").due(1, "undo").no(-3, "undo");
            x.due(first[what], "set", what, 1);
        }
        // The latest first, whatever it was of.
        x = test(6, words).told(0, 7).with("set", 1, 10).with("set", 0, 5).due(20, "later", 1, 0).due(1, "undo");
        x.due(0, "later", 1, 0).due(70, "later", 0, 0).due(1, "undo").due(700, "later", 0, 0).due(1, "undo");
        x.due(0, "later", 0, 0).no(-3, "undo");
        // What was UNDONE is asked anew: THE SET by BUDGET, what is SHOWN by DAY.
        x = test(6, words).told(0, 0, 3, 0, 0, 0, 2).with("set", 2, 0).due(1, "count", 4).due(1, "undo").due(2, "count", 4);
        x.due(0, "promise", 0, 2, 0).with("tell", 0, 5, 3).due(300, "promise", 0, 2, 0).with("undo").due(0, "promise", 0, 2, 0);
    }

    private static void fortyChanges() {
        String words = "the latest first (40 at most are kept).";
        for (int many : new int[] {39, 40, 41, 79, 80, 81, 95}) {
            Run x = test(6, words).harbours(0);
            for (int v = 1; v <= many; v++) x.with("tell", 0, 0, v).due(Math.min(v, 40), "count", 8);
            int kept = Math.min(many, 40);
            for (int n = 1; n <= kept; n++) x.due(1, "undo").due(100 * (many - n), "later", 0, 0);
            x.no(-3, "undo").due(0, "count", 8).due(many - kept, "tell", 0, 0, 99).due(1, "undo").no(-3, "undo");
        }
        // Some are UNDONE, more are told: 30 of the first 40 and the last 20 would be 50.
        Run x = test(6, words).harbours(0);
        for (int v = 1; v <= 40; v++) x.with("tell", 0, 0, v);
        for (int n = 0; n < 10; n++) x.due(1, "undo");
        for (int v = 51; v <= 70; v++) x.with("tell", 0, 0, v);
        x.due(40, "count", 8);
        for (int n = 0; n < 20; n++) x.due(1, "undo");
        x.due(3000, "later", 0, 0);
        for (int n = 0; n < 20; n++) x.due(1, "undo");
        x.no(-3, "undo").due(10, "tell", 0, 0, 0);
    }

    private static void noChanges() {
        String words = "each that was told (also to what it was) may be taken back (UNDONE),";
        Run x = test(6, words).harbours(0, 1).law(0, "n<9").rule(1, 0, 0, "1").with("holds", 0, 0).with("unrule", 0);
        x.with("year", 0).with("image").with("put", 1).text("b").due(0, "count", 8).no(-3, "undo");
        x.with("tell", 0, 0, 5).no(-4, "tell", 0, 0, -1).no(-6, "move", 0, 1, 100).no(-2, "set", 3, 1).due(1, "count", 8);
        x.due(-21, "law").due(1, "count", 8).with("harbour", 2).due(1, "count", 8).due(1, "undo").no(-3, "undo");
        x.due(0, "tell", 0, 0, 1).due(3, "count", 0);
    }

    private static void undoes() {
        Run x = test(6, "The latest change is UNDONE: 1.").harbours(0).with("tell", 0, 0, 5).with("tell", 0, 0, 6);
        x.due(1, "undo").due(500, "later", 0, 0).due(1, "count", 8).due(1, "undo").due(0, "later", 0, 0).due(0, "count", 8);
        x = test(6, "-3 there is none.").no(-3, "undo").harbours(0).no(-3, "undo").with("tell", 0, 0, 5).due(1, "undo");
        x.no(-3, "undo").no(-3, "undo").with("set", 2, 1).with("image").due(1, "undo").no(-3, "undo").with("set", 2, 1);
        x.with("restore").no(-3, "undo");
    }

    private static void years() {
        String words = "YEARS: WORLDS that came (60 at most; of HARBOURS that are there as they are told).";
        Run x = test(29, words).harbours(1).no(-1, "year", 1).due(1, "year", 2).harbours(0).due(2, "year", 1).due(3, "year", 3);
        x.no(-1, "year", 4).due(3, "count", 5);
        for (int n = 4; n <= 60; n++) x.due(n, "year", n % 4);
        x.no(-6, "year", 0).no(-6, "year", 3).no(-1, "year", 4).no(-1, "year", 16).no(-1, "year", -1).due(60, "count", 5);
        x = test(29, words);
        for (int n = 1; n <= 60; n++) x.due(n, "year", 0);
        x.no(-6, "year", 0).no(-1, "year", 1).due(0, "out").law(0, "b9").due(60, "out").due(-9, "dearYears", 0);

        x = test(29, "A YEAR: how many.").harbours(ALL);
        for (int world = 0; world < 16; world++) x.due(world + 1, "year", world);
        x.due(17, "year", 15).due(18, "year", 15).due(18, "count", 5).with("image").due(19, "year", 0).with("restore");
        x.due(18, "count", 5).due(19, "year", 0);

        x = test(29, "-1 WORLD (of HARBOURS that are there); -6 60.").harbours(0);
        for (int world : new int[] {2, 3, 4, 8, 15, 16, -1, LEAST, MOST}) x.no(-1, "year", world);
        for (int n = 1; n <= 60; n++) x.due(n, "year", n % 2);
        for (int world : new int[] {2, 3, 4, 8, 15, 16, -1, LEAST, MOST}) x.no(-1, "year", world);
        x.no(-6, "year", 0).no(-6, "year", 1);
    }

    private static void outs() {
        String words = "OUT: how many are not in THE SET;";
        Run x = test(30, words).harbours(ALL).due(0, "out");
        for (int world : new int[] {0, 1, 3, 7, 15, 15}) x.with("year", world);
        int[] out = {5, 4, 3, 2, 0};
        for (int budget = 0; budget <= 4; budget++) x.with("set", 2, budget).due(out[budget], "out");
        x.law(0, "n<4").due(2, "out").law(1, "b0").due(3, "out").law(2, "!b0").due(6, "out").with("holds", 2, 0).due(3, "out");
        x.with("holds", 0, 0).with("holds", 1, 0).due(0, "out");
        x = test(30, "OUT.").asks(0, "out").with("year", 0).asks(0, "out").law(0, "n>0").asks(1, "out").harbours(0).asks(1, "out");
        x.with("year", 1).asks(1, "out");
    }

    private static void dearYears() {
        String words = "DEAR YEARS: in how many the COST of a PLAN is above its WORST (all as it is now).";
        Run x = test(31, words).told(0, 0, 3, 20).told(1, 0, 3, 30).due(0, "dearYears", 0);
        for (int world : new int[] {0, 1, 2, 3, 3}) x.with("year", world);
        x.due(0, "dearYears", 0).with("set", 2, 1).due(2, "dearYears", 0).with("set", 2, 0).due(4, "dearYears", 0);
        // WORLD 0 is the WORST: a ferry at 0 costs as much in WORLD 1, which is not above it, and more in 2 and 3.
        x.due(3, "dearYears", 1).due(3, "dearYears", 4).due(0, "dearYears", 5).with("tell", 1, 1, 10).due(3, "dearYears", 1);
        x.with("set", 0, 13).with("move", 0, 1, 0).due(0, "dearYears", 1).with("move", 0, 1, 1).due(3, "dearYears", 1);
        // All as it is now: numbers told later count for YEARS that came before.
        x.with("set", 1, 0).due(0, "dearYears", 0).due(0, "dearYears", 1).with("set", 1, 1).with("set", 2, 4).due(0, "dearYears", 0);
        x.law(0, "n<1").due(4, "dearYears", 0).law(1, "n>0").due(-9, "dearYears", 0);
        // A YEAR that is not in THE SET need not be dear: WORLD 1 costs as much as WORLD 2, which is in it.
        x = test(31, words).told(0, 0, 3).told(1, 0, 3).law(0, "!b0").with("year", 1).with("year", 3).due(2, "out");
        x.due(1, "dearYears", 0).with("tell", 0, 1, 4).due(2, "dearYears", 0).with("tell", 0, 1, 2).due(1, "dearYears", 0);

        x = test(31, "DEAR YEARS of a PLAN; -9 THE SET is empty.").told(0, 0, 3).with("set", 2, 0).asks(0, "dearYears", 0);
        x.with("year", 1).asks(1, "dearYears", 0).asks(0, "dearYears", 1).law(0, "b0").asks(-9, "dearYears", 0);
        x.asks(-9, "dearYears", 3);
        x = test(31, "-1.").harbours(1);
        for (int round = 0; round < 2; round++) {
            for (int plan : new int[] {-1, 1, 16, 64, 256, LEAST, MOST}) x.no(-1, "dearYears", plan);
            x.law(round, "b9");
        }
    }

    private static void drawn() {
        String words = "DRAWN: the least BUDGET (0 .. 4) with which (LAWS as they are) n of them or more are in THE SET; -9 none.";
        Run x = test(32, words).harbours(ALL).due(0, "drawn", 0).due(-9, "drawn", 1);
        for (int world : new int[] {0, 1, 2, 3, 7, 15}) x.with("year", world);
        int[] due = {0, 0, 1, 1, 2, 3, 4, -9};
        for (int budget = 4; budget >= 0; budget -= 4) {
            x.with("set", 2, budget);
            for (int n = 0; n < due.length; n++) x.asks(due[n], "drawn", n);
        }
        x.law(0, "b1").due(0, "drawn", 0).due(1, "drawn", 1).due(2, "drawn", 2).due(4, "drawn", 4).due(-9, "drawn", 5);
        x.law(1, "n>3").due(0, "drawn", 0).due(4, "drawn", 1).due(-9, "drawn", 2).law(2, "b9").due(0, "drawn", 0);
        x.due(-9, "drawn", 1);

        x = test(32, "DRAWN for n (0 .. 60); -9.").harbours(0);
        for (int n = 0; n < 59; n++) x.with("year", 0);
        x.asks(0, "drawn", 59).asks(-9, "drawn", 60).with("year", 1).asks(0, "drawn", 59).asks(1, "drawn", 60);
        x.no(-6, "drawn", 61).no(-4, "drawn", -1).asks(0, "drawn", 0).law(0, "b9").asks(0, "drawn", 0).asks(-9, "drawn", 60);
        x = test(32, "-4; -6.").no(-4, "drawn", -1).no(-6, "drawn", 61).no(-4, "drawn", LEAST).no(-6, "drawn", MOST);
        x.law(0, "b9").no(-4, "drawn", -1).no(-6, "drawn", 61);
    }

    private static void images() {
        Run x = test(33, "THE IMAGE is taken: how many HARBOURS are there.").due(0, "image").due(0, "restore");
        for (int h : ALL) x.with("harbour", h).due(h + 1, "image");
        x.with("tell", 0, 0, 5).due(4, "image").due(1, "count", 8).with("tell", 0, 0, 6).due(4, "restore").due(500, "later", 0, 0);
        // A later IMAGE takes the place of the earlier; one of an earlier state may be taken behind RESTORED.
        x = test(33, "THE IMAGE is taken: how many HARBOURS are there.").harbours(0).due(1, "image").harbours(1).due(2, "image");
        x.harbours(2).due(2, "restore").due(2, "count", 0).due(2, "image").harbours(3).due(2, "restore");
        // Taking it changes nothing else.
        x = full(33, "THE IMAGE is taken: how many HARBOURS are there.").due(4, "image").asks(4, "image");
    }

    /** A bit of everything, with refusals, a TEXT and a row begun. */
    private static Run full(int promise, String sentence) {
        Run x = test(promise, sentence).told(0, 5, 6, 70, 8, 9, 2).told(1, 15, 16, 17, 18, 19, 3).told(2, 25, 2, 27, 2, 29, 4);
        x.told(3, 3, 36, 37, 38, 39, 5);
        for (int from : ALL) for (int to : ALL) if (from != to) x.with("move", from, to, 10 * from + to);
        x.with("set", 0, 12).with("set", 1, 130).with("set", 2, 3).law(0, "n<4").law(1, "b0|b1").law(2, "!b3").with("holds", 1, 0);
        x.rule(1, 0, 9, "s0*4+x1").rule(1, 1, 9, "5").rule(1, 3, 9, "x0*x0+s3");
        for (int world : new int[] {0, 1, 15, 9, 9}) x.with("year", world);
        return x.with("harbour", 9).with("best", 9).with("undo").with("corner", -1).with("corner", 9).text("b0").row(5, 6);
    }

    private static void imageKeepsAll() {
        String words = "RESTORED all is as it was then, and no changes may be UNDONE.";
        Run x = full(34, words).with("image");
        for (int h : ALL) for (int what = 0; what < 6; what++) x.with("tell", h, what, 1);
        for (int from : ALL) for (int to : ALL) if (from != to) x.with("move", from, to, 50);
        x.with("set", 0, 7).with("set", 1, 7).with("set", 2, 1).with("holds", 0, 0).with("holds", 1, 1).with("law");
        x.rule(1, 0, 9, "9").rule(1, 2, 9, "9").with("unrule", 1);
        for (int n = 0; n < 5; n++) x.with("year", 8);
        x.with("best", 0).text("b0").due(4, "restore").sameAs(full(34, words)).no(-3, "undo").due(0, "count", 8);
        // Restored again, behind other changes and from the same IMAGE.
        x = full(34, words).with("image").with("tell", 0, 0, 50).with("restore").with("tell", 1, 1, 50).with("unrule", 0);
        x.with("year", 3).with("ruled", 5, 0).with("best", 1).due(2, "count", 3).with("restore").sameAs(full(34, words)).due(0, "count", 8);
        // Harbours that came later are not there any more, and neither are their numbers as they come again.
        x = test(34, words).told(1, 4).with("image").told(0, 9, 9, 9, 9, 9, 9).with("move", 0, 1, 5).with("move", 1, 0, 5);
        x.rule(1, 0, 9, "s1").law(0, "b0").with("year", 1).due(1, "restore").no(-1, "tell", 0, 0, 0).no(-1, "cost", 1, 0);
        x.no(-1, "year", 1).no(-1, "unrule", 0).no(-1, "holds", 0, 0).due(0, "count", 1).due(0, "count", 3).due(0, "count", 5);
        x.due(1, "harbour", 0).sameAs(test(34, words).told(1, 4).with("harbour", 0));
        // The IMAGE of a new object: all is as at first.
        x = test(34, words).with("image").told(0, 9, 9, 9, 9, 9, 9).with("set", 0, 1).with("set", 1, 1).with("set", 2, 1);
        x.due(0, "restore").sameAs(test(34, words)).due(10, "set", 0, 1).due(100, "set", 1, 1).due(4, "set", 2, 1);
    }

    private static void whatGoesOn() {
        String words = "THE IMAGE: all that there is, but it, REFUSALS, the TEXT and the row (they go on);";
        Run x = test(34, words).told(0, 5).text("b").row(1, 2, 3).with("image").with("harbour", 9).with("feed", 1, '0');
        x.row(4, 5).with("best", 7).due(1, "restore").due(2, "count", 6).due(5, "count", 7).due(1, "count", 11);
        x.due(1, "count", 12).due(0, "law").set(2).due(6, "put", 6);
        // What the TEXT and the row had as THE IMAGE was taken does not come back.
        x = test(34, words).told(0, 5).text("b0").row(new int[12]).with("image").due(0, "law").due(0, "prove", 0, 0);
        x.due(1, "restore").due(0, "count", 6).due(0, "count", 7).due(0, "count", 1).due(-20, "law").no(-3, "prove", 0, 0);
        // THE IMAGE itself goes on: RESTORED, it is still there.
        x = test(34, words).harbours(0).due(1, "image").harbours(1).due(1, "restore").harbours(2).due(1, "restore");
        x.due(1, "count", 0).due(1, "restore");
    }

    private static void restores() {
        Run x = test(34, "RESTORED: how many HARBOURS.").with("image").harbours(ALL).due(0, "restore").harbours(ALL).due(4, "image");
        x.due(4, "restore").due(4, "restore").due(4, "count", 0);
        x = test(34, "-3 there is none.").no(-3, "restore").harbours(0).no(-3, "restore").no(-3, "undo").with("image");
        x.due(1, "restore").due(1, "restore").due(3, "count", 13);
        x = full(34, "-3 there is none.").no(-3, "restore").no(-3, "restore");
    }

    private static void counts() {
        String words = "0 HARBOURS, 1 LAWS, 2 LAWS that hold, 3 RULES, 4 WORLDS of THE SET, 5 YEARS, 6 bytes of the TEXT, "
            + "7 ints of the row, 8 changes that may be UNDONE, 11 .. 16 REFUSALS -1 .. -6.";
        Run x = full(35, words);
        int[] due = {4, 3, 2, 3, 8, 5, 2, 2, 38};
        for (int what = 0; what <= 8; what++) x.asks(due[what], "count", what);
        for (int what = 11; what <= 16; what++) x.asks(what == 15 || what == 13 ? 0 : 1, "count", what);
        // Full: each as many as there can be.
        x = test(35, words).harbours(ALL);
        for (int law = 0; law < 12; law++) x.law(law, "n<9");
        for (int h : ALL) x.rule(1, h, 0, "1");
        for (int n = 0; n < 60; n++) x.with("year", n % 16);
        for (int n = 0; n < 45; n++) x.with("set", 2, 4);
        x.text("0123456789012345678901234567890123456789").row(new int[12]);
        int[] most = {4, 12, 12, 4, 16, 60, 40, 12, 40};
        for (int what = 0; what <= 8; what++) x.asks(most[what], "count", what);
        // REFUSALS one by one, and -5 is never answered.
        x = test(35, words);
        int[] refusals = new int[7];
        for (int n = 1; n <= 6; n++) {
            for (int i = 0; i < n; i++) refuse(x, n, refusals);
            for (int k = 1; k <= 6; k++) x.due(refusals[k], "count", 10 + k);
        }

        x = full(35, "-9 for another what.");
        for (int what : new int[] {-1, 9, 10, 17, -2, 18, 32, -9, LEAST, MOST}) x.asks(-9, "count", what);
    }

    private static void refuse(Run x, int kind, int[] refusals) {
        if (kind == 5) return;
        refusals[kind]++;
        switch (kind) {
            case 1: x.due(-1, "harbour", 4); break;
            case 2: x.due(-2, "best", 2); break;
            case 3: x.due(-3, "undo"); break;
            case 4: x.due(-4, "corner", -1); break;
            default: x.due(-6, "corner", 5);
        }
    }

    private static void calls() {
        // The 512th call is still answered as the document says, and later ones, whose answers are free, end as well.
        String words = "An object is used for at most 512 calls after it has been made; what later calls answer is free.";
        Run x = test(1, words).harbours(ALL);
        for (int n = 0; n < 250; n++) x.due(n == 0 ? 0 : 1 + (n - 1) % 99, "tell", 3, 0, 1 + n % 99).due(Math.min(40, n + 1), "count", 8);
        for (int n = 0; n < 7; n++) x.due(1, "undo");
        x.due(33, "count", 8);
        FerryPlans y = new FerryPlans();
        for (int n = 0; n < 20000; n++) {
            y.harbour(n % 5);
            y.tell(n % 4, n % 6, n % 100);
            y.feed(1 + n % 8, n * 0x9E3779B97F4A7C15L);
            y.put(n);
            y.year(n % 16);
            y.best(n % 500 == 0 ? 0 : 2);
            y.law();
            y.rule(n % 4, n % 10);
        }
    }
}
