/** Part IV of the document: what is SHOWN by DAYS, CORNERS, words ahead, WHO and NONE; promises 22 to 28. */
final class EdgesOfDays {
    private static final int LEAST = Run.LEAST;
    private static final int MOST = Run.MOST;
    private static final int[] ALL = {0, 1, 2, 3};

    private EdgesOfDays() {
    }

    static void all() {
        shown();
        promises();
        corners();
        flats();
        foreknown();
        dearest();
        who();
        none();
        everyPlanCounts();
        plansCountApart();
        noneCalls();
    }

    private static Run test(int promise, String sentence) {
        return Edges.test(promise, sentence);
    }

    private static Run oneBadOf(int harbours, int promise, String sentence) {
        Run x = test(promise, sentence);
        for (int h = 0; h < harbours; h++) x.told(h, 0, 10, 50);
        return x.with("set", 2, 1);
    }

    private static void shown() {
        String words = "BY DAYS: SHOWN on a DAY by a true WORLD: HARBOURS whose DAY is not behind it are BAD as in that.";
        for (int seen = 0; seen <= 9; seen++) {
            Run x = test(22, words).told(2, 0, 3, 0, 0, 0, seen);
            for (int day = 0; day <= 9; day++) {
                x.due(day >= seen ? 0 : 300, "promise", 0, day, 0).due(300, "promise", 0, day, 4);
            }
        }
        // DAYS 0, 3, 6, 9 with 100, 200, 400 and 800 to lose: more and more is SHOWN.
        Run x = test(22, words).told(0, 0, 1, 0, 0, 0, 0).told(1, 0, 2, 0, 0, 0, 3);
        x.told(2, 0, 4, 0, 0, 0, 6).told(3, 0, 8, 0, 0, 0, 9);
        int[] due = {1400, 1400, 1400, 1200, 1200, 1200, 800, 800, 800, 0};
        for (int day = 0; day <= 9; day++) x.due(due[day], "promise", 0, day, 0).due(1500, "promise", 0, day, 15);
    }

    private static void promises() {
        String words = "PROMISE of a PLAN on a DAY with a true WORLD: its WORST over WORLDS of THE SET that are as SHOWN; -9 none.";
        Run x = test(22, words).told(0, 0, 3, 1, 0, 0, 4).told(1, 0, 5, 1, 0, 0, 6).with("set", 2, 1);
        x.due(500, "promise", 0, 3, 0).due(500, "promise", 0, 3, 3).due(300, "promise", 0, 4, 1).due(500, "promise", 0, 4, 2);
        // The true WORLD 3 is not in THE SET: as long as only 0 is SHOWN there is WORLD 1, then none.
        x.due(300, "promise", 0, 4, 3).due(300, "promise", 0, 5, 3).due(-9, "promise", 0, 6, 3).due(-9, "promise", 0, 9, 3);
        x.due(0, "promise", 0, 6, 0).due(500, "promise", 0, 6, 2).due(1, "promise", 4, 6, 2).law(0, "!b1");
        x.due(-9, "promise", 0, 6, 2).due(300, "promise", 0, 3, 2).law(1, "b1").due(-9, "promise", 0, 0, 0);
        x = test(22, words).due(0, "promise", 0, 0, 0).due(0, "promise", 0, 9, 0);

        x = test(22, "PROMISE; -9.").told(0, 0, 3).asks(300, "promise", 0, 0, 1).asks(0, "promise", 0, 0, 0).law(0, "b0");
        x.asks(-9, "promise", 0, 0, 0).asks(300, "promise", 0, 9, 1);

        x = test(22, "-1; -4; -6 (DAY 0 .. 9).").harbours(0);
        for (int day : new int[] {-1, 0, 9, 10, LEAST, MOST}) {
            x.no(-1, "promise", 4, day, 0).no(-1, "promise", 0, day, 2).no(-1, "promise", 256, day, 16);
            x.no(-1, "promise", -1, day, -1);
        }
        x.no(-4, "promise", 0, -1, 0).no(-6, "promise", 0, 10, 0).no(-4, "promise", 3, LEAST, 1).no(-6, "promise", 3, MOST, 1);
        x.asks(0, "promise", 3, 0, 1).asks(0, "promise", 3, 9, 1).law(0, "b9").no(-4, "promise", 0, -1, 0);
        x.no(-6, "promise", 0, 10, 0).asks(-9, "promise", 0, 9, 0);
    }

    /** Each BAD harbour needs a ferry; they cost 1 and move for nothing, so the best has as many as BUDGET. */
    private static Run moving(int promise, String sentence) {
        Run x = test(promise, sentence).harbours(ALL);
        for (int h : ALL) {
            x.with("tell", h, 1, 10).with("tell", h, 2, 1);
            for (int to : ALL) if (to != h) x.with("move", h, to, 0);
        }
        return x;
    }

    private static void corners() {
        String words = "CORNERS: BEST COST with BUDGET b (0 .. 4; LAWS as they are);";
        Run x = moving(23, words);
        for (int budget = 0; budget <= 4; budget++) x.asks(budget, "corner", budget);
        x.law(0, "!b3");
        int[] three = {0, 1, 2, 3, 3};
        for (int budget = 0; budget <= 4; budget++) x.asks(three[budget], "corner", budget);
        x.law(1, "n>1");
        int[] none = {-9, -9, 2, 3, 3};
        for (int budget = 0; budget <= 4; budget++) x.asks(none[budget], "corner", budget);
        x.with("holds", 0, 0).due(4, "corner", 4).law(2, "n>3").due(-9, "corner", 3).due(4, "corner", 4);

        x = moving(23, "CORNER of a BUDGET; -9.").with("set", 2, 1).asks(4, "corner", 4).asks(1, "best", 1).asks(0, "corner", 0);
        x.law(0, "n>0").asks(-9, "corner", 0).asks(1, "corner", 1).law(1, "b9").asks(-9, "corner", 4);
        test(23, "CORNER of a BUDGET; -9.").asks(0, "corner", 0).asks(0, "corner", 4);

        x = test(23, "-4; -6.").harbours(0);
        x.no(-4, "corner", -1).no(-6, "corner", 5).no(-4, "corner", LEAST).no(-6, "corner", MOST).law(0, "b9");
        x.no(-4, "corner", -1).no(-6, "corner", 5);
    }

    private static void flats() {
        String words = "FLAT: the greatest BUDGET b with which WORST of the PLAN that is BEST now is the same as with BUDGET 0 "
            + "(LAWS as they are); -9: no BEST, or none of THE SET with BUDGET 0.";
        for (int budget = 0; budget <= 4; budget++) moving(24, words).with("set", 2, budget).due(budget, "flat");
        // Where no more can go BAD it stays the same to the last BUDGET.
        moving(24, words).with("set", 2, 2).law(0, "n<3").due(4, "flat").law(1, "n<2").due(4, "flat");
        moving(24, words).with("set", 2, 1).law(0, "n<3").due(1, "flat");
        moving(24, words).with("set", 2, 3).law(0, "n=0|n>2").due(3, "flat");
        moving(24, words).with("set", 2, 2).law(0, "n=0|n=4").due(3, "flat");
        // One unit more by one WORLD is not the same.
        test(24, words).told(0, 0, 1, 999).with("set", 1, 1).due(0, "flat").with("set", 1, 0).due(4, "flat");
        moving(24, words).law(0, "n>0").due(-9, "flat").with("holds", 0, 0).due(4, "flat");
        moving(24, words).with("set", 2, 0).law(0, "n>0").due(-9, "flat").law(1, "b9").due(-9, "flat");
        Run x = moving(24, "FLAT; -9.").with("set", 2, 2).asks(2, "flat").law(0, "n>0").asks(-9, "flat");
        test(24, "FLAT; -9.").asks(4, "flat");
    }

    private static void foreknown() {
        String words = "FOREKNOWN: of a HARBOUR: the greater of the two BEST COSTS if it is known ahead that it goes BAD, and that "
            + "it does not (a part without WORLDS counts for nothing); WORTH of that word: BEST COST less that.";
        // Known: a ferry for the one that may go BAD (PRICE 50, and 60 at 1); unknown: both.
        Run x = oneBadOf(2, 25, words).with("tell", 1, 2, 60);
        x.due(60, "foreknown", 0, 0).due(50, "foreknown", 0, 1).due(60, "foreknown", 1, 0).due(50, "foreknown", 1, 1);
        x.with("tell", 1, 2, 40).due(50, "foreknown", 0, 0).due(40, "foreknown", 0, 1).due(50, "foreknown", 1, 0);
        x.law(0, "b0").due(50, "foreknown", 0, 0).due(0, "foreknown", 0, 1).due(50, "foreknown", 1, 0);
        x.with("holds", 0, 0).law(1, "!b0").due(40, "foreknown", 0, 0).due(0, "foreknown", 0, 1);
        x.law(2, "n<1").due(0, "foreknown", 0, 0).due(0, "foreknown", 1, 0).due(0, "foreknown", 1, 1);
        // A part without WORLDS counts for nothing, also where all that is left costs nothing.
        x = test(25, words).harbours(0).law(0, "b0").due(0, "foreknown", 0, 0).due(0, "foreknown", 0, 1);

        x = oneBadOf(2, 25, "FOREKNOWN of a HARBOUR (what 0), WORTH (1); -9 THE SET is empty.");
        x.asks(50, "foreknown", 1, 0).asks(50, "foreknown", 1, 1).law(0, "n>1").asks(-9, "foreknown", 1, 0);
        x.asks(-9, "foreknown", 0, 1).with("set", 2, 2).asks(100, "foreknown", 0, 0).asks(0, "foreknown", 0, 1);

        x = test(25, "-1; -2.").harbours(1);
        for (int round = 0; round < 2; round++) {
            for (int h : new int[] {-1, 0, 2, 3, 4, LEAST, MOST}) x.no(-1, "foreknown", h, 0).no(-1, "foreknown", h, 2);
            for (int what : new int[] {-1, 2, LEAST, MOST}) x.no(-2, "foreknown", 1, what);
            x.law(round, "b9");
        }
    }

    private static void dearest() {
        String words = "DEAREST: the HARBOUR whose word is worth most, of several the least.";
        oneBadOf(4, 26, words).due(0, "dearest").with("tell", 0, 1, 0).due(1, "dearest");
        // The words are worth 30, 30 and 31: one ferry less, each at its own PRICE, if it is known who goes BAD.
        Run x = test(26, words).told(0, 0, 10, 30).told(1, 0, 10, 30).told(2, 0, 10, 30).told(3, 0, 10, 31).with("set", 2, 1);
        x.due(30, "foreknown", 0, 1).due(30, "foreknown", 1, 1).due(30, "foreknown", 2, 1).due(31, "foreknown", 3, 1);
        x.due(3, "dearest").with("tell", 3, 2, 30).due(0, "dearest").with("tell", 2, 2, 32).due(2, "dearest");
        test(26, words).told(3, 0, 10, 30).due(3, "dearest").harbours(2).due(2, "dearest").harbours(0).due(0, "dearest");
        // All words are worth nothing.
        test(26, words).harbours(1, 2).due(1, "dearest").law(0, "b2").due(1, "dearest");

        x = test(26, "DEAREST; -9 no HARBOURS, THE SET is empty.").asks(-9, "dearest").law(0, "n<9").asks(-9, "dearest");
        x.law(1, "b9").asks(-9, "dearest").harbours(0).asks(-9, "dearest").with("holds", 1, 0).asks(0, "dearest");
    }

    private static void who() {
        String words = "WHO bears it BY RULES: the HARBOUR at which most units are LEFT in one WORLD of THE SET, of several the "
            + "least; how many.";
        Run x = test(27, words).told(0, 4, 3).told(1, 3, 4).told(2, 3, 5).told(3, 7).with("set", 2, 1);
        x.due(2, "who", 0, 0).due(8, "who", 0, 1).with("tell", 2, 1, 4).due(0, "who", 0, 0).due(7, "who", 0, 1);
        x.due(1, "who", 1, 0).due(2, "who", 5, 0).due(3, "who", 21, 0).due(7, "who", 21, 1).due(0, "who", 85, 0);
        x.due(0, "who", 85, 1).with("set", 2, 0).due(3, "who", 0, 0).due(7, "who", 0, 1).law(0, "n=1").with("set", 2, 1);
        x.due(0, "who", 0, 0).law(1, "b2").due(2, "who", 0, 0).due(7, "who", 0, 1).due(3, "who", 16, 0);
        // By rules: what is had lessens what is left, to 0 and no further, and nothing is moved.
        x = test(27, words).told(1, 6, 0, 0, 1, 5).told(2, 2, 0, 0, 1, 99).due(1, "who", 0, 0).rule(1, 1, 0, "4");
        x.due(1, "who", 0, 0).due(2, "who", 0, 1).rule(1, 1, 0, "9").due(2, "who", 0, 0).due(2, "who", 0, 1);
        x.rule(1, 2, 0, "1").due(1, "who", 0, 0).due(1, "who", 0, 1).rule(1, 2, 0, "3").with("tell", 1, 4, 6);
        x.due(1, "who", 0, 0).due(0, "who", 0, 1).with("unrule", 1).with("move", 2, 1, 0).due(6, "who", 48, 1);
        x = test(27, words).told(3, 99, 99).due(198, "who", 0, 1).due(3, "who", 0, 0).harbours(0).due(3, "who", 0, 0);
        x.due(168, "who", 192, 1).with("set", 0, 50).due(48, "who", 192, 1).due(3, "who", 192, 0);

        x = test(27, "WHO of a PLAN: the HARBOUR (what 0), how much (1); -9 no HARBOURS, THE SET is empty.");
        x.asks(-9, "who", 0, 0).asks(-9, "who", 0, 1).told(3, 5).asks(3, "who", 0, 0).asks(5, "who", 0, 1).asks(0, "who", 64, 1);
        x.asks(3, "who", 64, 0).law(0, "b9").asks(-9, "who", 0, 0).asks(-9, "who", 0, 1);

        x = test(27, "-1; -2.").no(-1, "who", 1, 0).no(-1, "who", 1, 2).no(-2, "who", 0, 2).no(-2, "who", 0, -1).harbours(1);
        for (int round = 0; round < 2; round++) {
            for (int plan : new int[] {-1, 1, 16, 256, LEAST, MOST}) x.no(-1, "who", plan, 0).no(-1, "who", plan, 2);
            for (int what : new int[] {-1, 2, LEAST, MOST}) x.no(-2, "who", 4, what);
            x.law(round, "b9");
        }
    }

    private static void none() {
        String words = "NONE: with a MARK: the fewest WORLDS of THE SET (3 at most) so that no PLAN has a COST of MARK or less in all "
            + "of them: how many, and these as bits (WORLD k bit k), of several sets the least as a number.";
        // A ferry (50) for each that may go BAD: with less than two of them two WORLDS are not borne, and so on.
        int[][] due = {{0, 1, 2}, {49, 1, 2}, {50, 2, 6}, {99, 2, 6}, {100, 3, 22}, {149, 3, 22}, {150, -9, -9}, {199, -9, -9}};
        Run x = oneBadOf(4, 28, words);
        for (int[] one : due) x.due(one[1], "none", one[0], 0).due(one[2], "none", one[0], 1);
        // Four would be; with a LAW that leaves three of them a PLAN bears it.
        x.law(0, "!b0").due(2, "none", 99, 0).due(4 + 16, "none", 99, 1).due(4 + 16 + 256, "none", 149, 1);
        x.due(-9, "none", 150, 0).law(1, "!b1").due(16 + 256, "none", 99, 1).due(-9, "none", 100, 1).law(2, "!b2");
        x.due(1, "none", 49, 0).due(256, "none", 49, 1).due(-9, "none", 50, 0).law(3, "n<1").due(-9, "none", 0, 0);
        // MARK itself is borne, one less is not.
        x = test(28, words).told(0, 7, 2, 999).due(1, "none", 699, 0).due(1, "none", 699, 1).due(1, "none", 700, 0);
        x.due(2, "none", 700, 1).due(2, "none", 899, 1).due(-9, "none", 900, 0).due(-9, "none", 900, 1);
        // The greatest bit: only WORLD 15 is in THE SET; all 16 are, and each alone is dear enough.
        x = test(28, words).harbours(ALL).with("tell", 3, 0, 1).law(0, "n>3");
        for (int h : ALL) x.with("tell", h, 2, 200);
        x.due(1 << 15, "none", 0, 1).due(1 << 15, "none", 99, 1).due(-9, "none", 100, 1).with("holds", 0, 0);
        x.due(1, "none", 99, 1).due(-9, "none", 100, 1);
        // THE SET is WORLD 0 alone.
        x = test(28, words).told(0, 7, 2, 999).with("set", 2, 0).due(1, "none", 699, 0).due(1, "none", 699, 1);
        x.due(-9, "none", 700, 0).due(-9, "none", 700, 1);
        // A set of one that is great comes before a set of two that is small.
        x = test(28, words).told(0, 0, 10, 50).told(1, 0, 10, 50).told(2, 0, 30, 40).with("set", 2, 1);
        x.due(1, "none", 99, 0).due(16, "none", 99, 1).due(2, "none", 120, 0).due(2 + 16, "none", 120, 1);
    }

    /**
     * Each harbour needs what some ferries carry: with their fare as MARK one PLAN alone bears WORLD 0, and none bears
     * WORLD 1. Were that PLAN not seen, WORLD 0 would be the answer.
     */
    private static void everyPlanCounts() {
        String words = "so that no PLAN has a COST of MARK or less in all of them:";
        for (int plan = 0; plan < 256; plan++) {
            Run x = test(28, words).law(0, "!b1&!b2&!b3").with("set", 1, 999);
            int ferries = 0;
            for (int h : ALL) {
                ferries += plan >> 2 * h & 3;
                x.told(h, 10 * (plan >> 2 * h & 3), h == 0 ? 99 : 0, 100);
            }
            x.due(2, "none", 100 * ferries, 1).due(1, "none", 100 * ferries, 0);
            if (plan > 0) x.due(1, "none", 100 * ferries - 1, 1);
        }
    }

    /** Two PLANS of which one bears a WORLD and one another are not one that bears both, whichever two they are. */
    private static void plansCountApart() {
        for (int plan = 0; plan < 256; plan++) {
            for (int h : ALL) if ((plan >> 2 * h & 3) < 3) apart(plan, plan + (1 << 2 * h), (h + 1) % 4);
        }
        for (int plan = 0; plan < 256; plan += 64) apart(plan, plan + 63, 3);
        for (int plan = 0; plan < 4; plan++) apart(plan, plan + 252, 0);
    }

    /**
     * The small PLAN has what is needed; in one WORLD a unit more lacks at 'same', where both have as many and a ferry is
     * dear, in the other what the further ferries of the great PLAN carry. The MARK bears the unit, or these ferries.
     */
    private static void apart(int small, int great, int same) {
        Run x = test(28, "so that no PLAN has a COST of MARK or less in all of them:").with("set", 1, 50);
        int mark = 0;
        int further = 0;
        int other = 0;
        for (int h : ALL) {
            int has = small >> 2 * h & 3;
            int gets = (great >> 2 * h & 3) - has;
            int price = h == same ? 200 : 20;
            x.told(h, 10 * has, h == same ? 1 : 10 * gets, price);
            mark += has * price;
            further += gets * price;
            if (gets > 0) other |= 1 << h;
        }
        x.law(0, onlyWorld(1 << same) + "|" + onlyWorld(other));
        x.due(1 << (1 << same) | 1 << other, "none", mark + Math.max(50, further), 1);
    }

    private static String onlyWorld(int world) {
        StringBuilder law = new StringBuilder();
        for (int h : ALL) law.append(h == 0 ? "" : "&").append((world >> h & 1) == 1 ? "b" : "!b").append(h);
        return law.toString();
    }

    private static void noneCalls() {
        Run x = test(28, "NONE with a MARK (0 .. 99999): how many (what 0), the bits (1);").harbours(ALL).with("set", 1, 999);
        for (int h : ALL) x.with("tell", h, 0, 99);
        x.with("set", 0, 1).asks(1, "none", 0, 0).asks(1, "none", 0, 1).asks(1, "none", 99999, 0).asks(1, "none", 99999, 1);
        x.no(-4, "none", -1, 0).no(-6, "none", 100000, 0).no(-4, "none", LEAST, 1).no(-6, "none", MOST, 1);
        // The best costs 99 * 999 + 999, 99 * 999 + 99 and 99 * 999 in turn.
        x = test(28, "NONE with a MARK (0 .. 99999): how many (what 0), the bits (1);").told(0, 99, 2, 999).with("set", 1, 999);
        x.with("set", 0, 1).due(99 * 999, "later", 0, 0).due(101 * 999, "later", 0, 1).due(2, "none", 99999, 1);
        x.with("tell", 0, 1, 1).due(1, "none", 98900, 1).due(2, "none", 98901, 1).due(2, "none", 99899, 1);
        x.due(-9, "none", 99900, 1).due(-9, "none", 99999, 1);

        x = oneBadOf(4, 28, "-9 a PLAN bears it, or more than 3 would be.").asks(-9, "none", 200, 0).asks(-9, "none", 200, 1);
        x.asks(-9, "none", 199, 0).asks(-9, "none", 199, 1).asks(-9, "none", 150, 0).asks(3, "none", 149, 0);
        x.asks(-9, "none", 99999, 1).law(0, "b9").asks(-9, "none", 0, 0).asks(-9, "none", 0, 1);
        test(28, "-9 a PLAN bears it, or more than 3 would be.").asks(-9, "none", 0, 0).asks(-9, "none", 99999, 1);

        x = test(28, "-2; -4; -6.").harbours(0);
        for (int round = 0; round < 2; round++) {
            for (int what : new int[] {-1, 2, LEAST, MOST}) {
                x.no(-2, "none", 0, what).no(-2, "none", -1, what).no(-2, "none", 100000, what);
            }
            x.no(-4, "none", -1, 0).no(-6, "none", 100000, 0).no(-4, "none", -1, 1).no(-6, "none", 100000, 1);
            x.law(round, "b9");
        }
    }
}
