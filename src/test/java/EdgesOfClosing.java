/** Part III of the document: CLOSING from both sides and PROOFS; promises 19 to 21. */
final class EdgesOfClosing {
    private static final int LEAST = Run.LEAST;
    private static final int MOST = Run.MOST;
    private static final int[] ALL = {0, 1, 2, 3};

    private EdgesOfClosing() {
    }

    static void all() {
        firstBorne();
        rounds();
        provedOrBorne();
        afterRounds();
        closeCalls();
        rows();
        rowsOfProofs();
        holdsOrNot();
        worths();
        failsFirst();
        proveCalls();
    }

    private static Run test(int promise, String sentence) {
        return Edges.test(promise, sentence);
    }

    private static void closed(Run x, int n, int... due) {
        for (int what = 0; what < 6; what++) x.due(due[what], "close", n, what);
    }

    /** PLAN 0 is always best, as a ferry costs 999: it costs 100, 200, 300 and 400 if 0, 1, 2 and 3 go BAD. */
    private static Run dearFerries(int promise, String sentence) {
        return test(promise, sentence).told(0, 0, 1, 999).told(1, 0, 2, 999).told(2, 0, 3, 999).told(3, 0, 4, 999);
    }

    /** Harbours that need one ferry (PRICE 50) each if they go BAD, at most one of them; MOVE is 99. */
    private static Run oneBadOf(int harbours, int promise, String sentence) {
        Run x = test(promise, sentence);
        for (int h = 0; h < harbours; h++) x.told(h, 0, 10, 50);
        return x.with("set", 2, 1);
    }

    private static void firstBorne() {
        String words = "CLOSING from both sides: WORLDS BORNE: at first WORLD 0 if it is in THE SET, else the least one of it.";
        Run x = dearFerries(19, words);
        closed(x, 1, 0, 1000, 0, 1, 2, 0);
        x.law(0, "n>0");
        closed(x, 1, 100, 1000, 0, 1, 2, 0);
        x.law(1, "!b0");
        closed(x, 1, 200, 900, 0, 1, 2, 0);
        x.law(2, "!b1|b2&b3");
        closed(x, 1, 300, 900, 0, 1, 2, 0);
        x.law(3, "b3&!b2");
        closed(x, 1, 400, 400, 0, 1, 1, 1);
        x.law(4, "b2");
        closed(x, 1, -9, -9, -9, -9, -9, -9);
        x = dearFerries(19, words).law(0, "n>3");
        closed(x, 1, 1000, 1000, 0, 1, 1, 1);
        closed(test(19, words), 1, 0, 0, 0, 1, 1, 1);
        x = dearFerries(19, words).with("set", 2, 0);
        closed(x, 1, 0, 0, 0, 1, 1, 1);
        closed(x, 99, 0, 0, 0, 1, 1, 1);
    }

    private static void rounds() {
        String words = "In a ROUND: UNDER: the least, over all PLANS, of the greatest COST over WORLDS BORNE (of several PLANS "
            + "the least); this is the ROUND's PLAN, with its WORST; OVER: the least WORST so far.";
        // PRICE 0: in WORLD 0 all PLANS cost nothing, and 0 is the least of them.
        Run x = test(19, words).told(0, 0, 10);
        closed(x, 1, 0, 1000, 0, 1, 2, 0);
        closed(x, 2, 0, 0, 1, 2, 2, 1);
        // OVER stays with PLAN 0 (1000) though the PLANS of later rounds are worse at their worst.
        x = oneBadOf(3, 19, words);
        closed(x, 1, 0, 1000, 0, 1, 2, 0);
        closed(x, 2, 50, 1000, 0, 2, 3, 0);
        closed(x, 3, 100, 1000, 0, 3, 4, 0);
        closed(x, 4, 150, 150, 21, 4, 4, 1);
        // With MOVE 90 they are better, and OVER goes down round by round: 1000, 50 + 900, 50 + 900, 150.
        for (int from = 0; from < 3; from++) {
            for (int to = 0; to < 3; to++) if (from != to) x.with("move", from, to, 90);
        }
        closed(x, 1, 0, 1000, 0, 1, 2, 0);
        closed(x, 2, 50, 950, 1, 2, 3, 0);
    }

    private static void provedOrBorne() {
        String words = "PROVED, if that is UNDER; else the WORLD of the WORST of this ROUND's PLAN is BORNE, too.";
        Run x = dearFerries(19, words);
        x.due(0, "close", 1, 5).due(2, "close", 1, 4).due(1, "close", 2, 5).due(2, "close", 2, 4);
        x = oneBadOf(4, 19, words);
        closed(x, 1, 0, 1000, 0, 1, 2, 0);
        closed(x, 4, 150, 1000, 0, 4, 5, 0);
        closed(x, 5, 200, 200, 85, 5, 5, 1);
        // OVER and UNDER that differ by one are not PROVED.
        x = test(19, words).told(0, 0, 1, 999).with("set", 1, 1);
        closed(x, 1, 0, 1, 0, 1, 2, 0);
        closed(x, 2, 1, 1, 0, 2, 2, 1);
        x.with("set", 1, 0);
        closed(x, 1, 0, 0, 0, 1, 1, 1);
    }

    private static void afterRounds() {
        String words = "After n ROUNDS at most (it ends as it is PROVED): UNDER, OVER, the PLAN of OVER (the first that had it), "
            + "how many ROUNDS, how many BORNE.";
        Run x = oneBadOf(3, 19, words);
        for (int n = 1; n <= 6; n++) x.due(Math.min(n, 4), "close", n, 3).due(Math.min(n + 1, 4), "close", n, 4);
        closed(x, 5, 150, 150, 21, 4, 4, 1);
        closed(x, 99, 150, 150, 21, 4, 4, 1);
        // PLAN 4 costs 10 in WORLD 0 and 20 in WORLD 2; PLAN 1 costs 20 in both, is less, and comes a ROUND later.
        x = test(19, words).told(0, 10, 0, 20, 10, 99).told(1, 0, 1, 10, 0, 99).with("move", 1, 0, 0).law(0, "!b0");
        closed(x, 1, 10, 20, 4, 1, 2, 0);
        closed(x, 2, 20, 20, 4, 2, 2, 1);
        x.due(1, "best", 0).due(20, "best", 1);
    }

    private static void closeCalls() {
        Run x = oneBadOf(2, 19, "CLOSING in n (1 .. 99) ROUNDS at most:");
        x.no(-4, "close", 0, 0).no(-6, "close", 100, 0).asks(0, "close", 1, 0).asks(100, "close", 99, 0);
        x.no(-4, "close", -1, 0).no(-4, "close", LEAST, 0).no(-6, "close", MOST, 0);

        x = oneBadOf(2, 19, "0 UNDER, 1 OVER, 2 the PLAN, 3 ROUNDS, 4 BORNE, 5 PROVED (1, 0);");
        int[] one = {0, 1000, 0, 1, 2, 0};
        int[] all = {100, 100, 5, 3, 3, 1};
        for (int what = 0; what < 6; what++) x.asks(one[what], "close", 1, what).asks(all[what], "close", 99, what);
        for (int what : new int[] {-1, 6, LEAST, MOST}) x.no(-2, "close", 1, what);

        x = oneBadOf(2, 19, "-9 THE SET is empty.").law(0, "n>1");
        for (int what = 0; what < 6; what++) x.asks(-9, "close", 1, what).asks(-9, "close", 99, what);

        x = oneBadOf(2, 19, "-2; -4; -6.");
        for (int round = 0; round < 2; round++) {
            for (int what : new int[] {-1, 6}) x.no(-2, "close", 0, what).no(-2, "close", 100, what).no(-2, "close", 5, what);
            for (int what = 0; what < 6; what++) x.no(-4, "close", 0, what).no(-6, "close", 100, what);
            x.law(round, "n>1");
        }
    }

    private static void rows() {
        Run x = test(20, "An int more of the row: how many.").harbours(0);
        int[] numbers = {0, -1, LEAST, MOST, 9999, 10000, 1, 0, 0, 0, 0, 0};
        for (int i = 0; i < 12; i++) x.due(i + 1, "put", numbers[i]).due(i + 1, "count", 7);
        x.due(-1001, "prove", 0, 0).due(0, "count", 7).due(1, "put", MOST).due(1, "count", 7);

        x = test(20, "-6 12.").told(0, 1);
        for (int i = 0; i < 12; i++) x.due(i + 1, "put", 0);
        x.no(-6, "put", 0).no(-6, "put", -1).no(-6, "put", LEAST).no(-6, "put", MOST).due(12, "count", 7);
        x.due(0, "prove", 0, 0).due(1, "put", 5);
    }

    /** The row in which the named places have these numbers, and all others 0. */
    private static int[] row(int... placesAndNumbers) {
        int[] row = new int[12];
        for (int i = 0; i < placesAndNumbers.length; i += 2) row[placesAndNumbers[i]] = placesAndNumbers[i + 1];
        return row;
    }

    private static void proof(Run x, int want, int plan, int world, int... placesAndNumbers) {
        x.row(row(placesAndNumbers)).due(want, "prove", plan, world);
    }

    private static void rowsOfProofs() {
        String words = "A PROOF of LATER for a PLAN in a WORLD: a row of ints (12): u 0 .. 3, v 0 .. 3, w 0 .. 3, by HARBOURS.";
        // All lack: u of h is worth what lacks there, w of h takes LIMIT 3.
        for (int h : ALL) {
            Run x = test(21, words).harbours(ALL);
            for (int one : ALL) x.with("tell", one, 0, 5 + one).with("tell", one, 3, 9).with("tell", one, 4, 3);
            proof(x, 7 * (5 + h), 0, 0, h, 7);
            proof(x, 12 * (5 + h) - 3 * 3, 0, 0, h, 12, 8 + h, 3);
            proof(x, 7 * (5 + h), 0, 0, h, 7, 4 + h, 9999);
        }
        // One gives 10 to another that lacks 5: v of the giver takes 10 times what it is.
        for (int h : ALL) {
            int other = (h + 1) % 4;
            Run x = test(21, words).told(h, 0).told(other, 5, 5).with("move", h, other, 8);
            x.with("tell", other, 3, 50);
            int plan = 1 << 2 * h;
            proof(x, 8 * 5, plan, 0, other, 8);
            proof(x, 20 * 10 - 12 * 10, plan, 1 << other, other, 20, 4 + h, 12);
            proof(x, 8 * 5, plan, 0, other, 8, 4 + other, 9999, 8 + h, 9999, h, 9999);
        }
    }

    private static void holdsOrNot() {
        String all = "It HOLDS if all are 0 .. 9999,";
        for (int place = 0; place < 12; place++) {
            // Nobody lacks anything, so that only the bounds are looked at.
            Run x = test(21, all).harbours(ALL);
            proof(x, 0, 0, 0, place, 9999);
            proof(x, 0, 0, 0, place, 0);
            for (int v : new int[] {-1, 10000, LEAST, MOST}) proof(x, -1000 - place, 0, 0, place, v);
        }
        Run x = test(21, all).harbours(ALL).row(9999, 9999, 9999, 9999, 9999, 9999, 9999, 9999, 9999, 9999, 9999, 9999);
        x.due(0, "prove", 0, 0);

        String words = "and for each j that lacks some u of j is not above v of i and MOVE of i to j together (for each i that "
            + "has some to move), not above w of j and DEAR of j together, not above LEFT.";
        x = test(21, words).told(0, 0).told(1, 5, 0, 0, 60, 2).with("move", 0, 1, 40);
        proof(x, 40 * 5, 1, 0, 1, 40);
        proof(x, -1101, 1, 0, 1, 41);
        proof(x, 0, 1, 0, 1, 41, 4, 9999);
        proof(x, 41 * 5 - 10, 1, 0, 1, 41, 4, 1);
        proof(x, 60 * 5 - 20 * 10, 1, 0, 1, 60, 4, 20);
        proof(x, -1201, 1, 0, 1, 61, 4, 21);
        proof(x, 61 * 5 - 21 * 10 - 2, 1, 0, 1, 61, 4, 21, 9, 1);
        proof(x, 100 * 5 - 40 * 2, 0, 0, 1, 100, 9, 40);
        proof(x, -1301, 0, 0, 1, 101, 9, 41);
        proof(x, -1301, 0, 0, 1, 9999, 9, 9999);
        x.with("set", 1, 0);
        proof(x, -1301, 0, 0, 1, 1);
        proof(x, 0, 0, 0, 1, 0);
        x.with("set", 1, 999);
        proof(x, 999 * 5 - 939 * 2, 0, 0, 1, 999, 9, 939);
        proof(x, -1301, 0, 0, 1, 1000, 9, 9999);
        // One unit is some: 1 that lacks 1, and 0 that has 1 to move.
        x = test(21, words).told(0, 9).told(1, 1, 0, 0, 60, 2).with("move", 0, 1, 40);
        proof(x, 40, 1, 0, 1, 40);
        proof(x, -1101, 1, 0, 1, 41);
        proof(x, 60, 0, 0, 1, 60, 8, 60);
        proof(x, -1201, 0, 0, 1, 61);
        proof(x, -1301, 0, 0, 1, 101, 9, 41);
        // Who lacks nothing may have any u; who has nothing to move, or just what it needs, binds nobody.
        x = test(21, words).told(0, 10).told(1, 5).with("move", 0, 1, 0).with("tell", 1, 3, 50);
        proof(x, 50 * 5, 1, 0, 1, 50, 0, 9999);
        proof(x, 50 * 10 + 50 * 5, 0, 0, 0, 50, 1, 50, 8, 50);
        x.with("tell", 0, 0, 9);
        proof(x, -1101, 1, 0, 1, 50, 0, 9999);
        proof(x, 50 * 5 - 50, 1, 0, 1, 50, 0, 9999, 4, 50);
    }

    private static void worths() {
        String words = "WORTH: the sum of u times what lacks, less v times what may be moved, less w times LIMIT (of those that "
            + "lack), 0 at least.";
        Run x = test(21, words).told(0, 9).told(1, 10, 0, 0, 9, 4);
        proof(x, 9 * 10 - 89, 1, 0, 1, 9, 4, 89);
        proof(x, 0, 1, 0, 1, 9, 4, 90);
        proof(x, 0, 1, 0, 1, 9, 4, 91);
        proof(x, 0, 1, 0, 1, 9, 4, 9999);
        x.with("tell", 0, 4, 4);
        proof(x, 9 * 9 - 20 * 4, 4, 0, 0, 9, 8, 20);
        proof(x, 0, 4, 0, 0, 8, 8, 18);
        proof(x, 0, 4, 0, 0, 9, 8, 21);
        proof(x, 0, 0, 0);
        // LIMIT of one that lacks nothing is not taken, though its w is told.
        x = test(21, words).told(0, 9, 0, 0, 0, 99).told(1, 10, 0, 0, 9, 0);
        proof(x, 9 * 10, 1, 0, 1, 9, 8, 9999, 9, 9999);
        x.with("tell", 0, 0, 10);
        proof(x, 9 * 10, 1, 0, 1, 9, 4, 9999, 8, 9999);
        x.with("tell", 0, 0, 11);
        proof(x, 9 * 10, 1, 0, 1, 9, 4, 9999);
        proof(x, 0, 1, 0, 0, 5, 1, 9, 8, 5);
        x.with("tell", 0, 4, 9);
        proof(x, 9 * 10 + 5 * 1 - 5 * 9, 1, 0, 0, 5, 1, 9, 8, 5);
        x = test(21, words).harbours(ALL).with("set", 1, 999);
        for (int h : ALL) x.with("tell", h, 0, 99).with("tell", h, 1, 99);
        proof(x, 4 * 198 * 999, 0, 15, 0, 999, 1, 999, 2, 999, 3, 999, 8, 9999, 9, 9999, 10, 9999, 11, 9999);
        x.due(4 * 198 * 999, "later", 0, 15).with("set", 0, 50);
        for (int h : ALL) x.with("tell", h, 0, 0);
        proof(x, 0, 255, 0, 4, 9999, 5, 9999, 6, 9999, 7, 9999);
    }

    private static void failsFirst() {
        String words = "What fails first: the place (0 .. 11) of a number that is not 0 .. 9999; else, j by j: 100, 10 i and j by "
            + "MOVE (i by i), 200 and j by DEAR, 300 and j by LEFT.";
        for (int place = 0; place < 12; place++) {
            Run x = test(21, words).harbours(ALL).with("tell", 0, 0, 5);
            int[] row = {101, 0, 0, 0, 0, 0, 0, 0, 0, 0, 0, 0};
            for (int later = place; later < 12; later++) row[later] = later % 2 == 0 ? -1 : 10000;
            x.row(row).due(-1000 - place, "prove", 0, 0);
        }
        for (int i : ALL) {
            for (int j : ALL) {
                if (i == j) continue;
                Run x = test(21, words).told(i, 0).told(j, 5).with("move", i, j, 7);
                proof(x, -1100 - 10 * i - j, 1 << 2 * i, 0, j, 8);
                proof(x, -1200 - j, 1 << 2 * i, 0, j, 1);
                proof(x, -1300 - j, 1 << 2 * i, 0, j, 101, 4 + i, 101, 8 + j, 101);
                proof(x, -1100 - 10 * i - j, 1 << 2 * i, 0, j, 101, 8 + j, 101);
                proof(x, -1200 - j, 1 << 2 * i, 0, j, 101, 4 + i, 101);
            }
        }
        // 0 and 1 have some to move, 2 and 3 lack: j by j first, then i by i, then DEAR, then LEFT.
        Run x = test(21, words).told(0, 0).told(1, 0).told(2, 5).told(3, 5);
        for (int i = 0; i < 2; i++) x.with("move", i, 2, 10).with("move", i, 3, 20);
        proof(x, -1102, 5, 0, 2, 11, 3, 21);
        proof(x, -1112, 5, 0, 2, 11, 3, 21, 4, 1);
        proof(x, -1202, 5, 0, 2, 11, 3, 21, 4, 1, 5, 1);
        proof(x, -1103, 5, 0, 2, 10, 3, 21, 10, 10);
        proof(x, -1113, 5, 0, 2, 10, 3, 21, 10, 10, 4, 1);
        proof(x, -1203, 5, 0, 2, 10, 3, 20, 10, 10);
        proof(x, -1302, 5, 0, 2, 101, 3, 101, 4, 91, 5, 91, 10, 101);
        proof(x, -1103, 5, 0, 2, 100, 3, 121, 4, 90, 5, 90, 10, 100);
        proof(x, -1303, 5, 0, 2, 100, 3, 101, 4, 90, 5, 90, 10, 100, 11, 101);
    }

    private static void proveCalls() {
        Run x = test(21, "The row, which has none then, as a PROOF of LATER: its WORTH; or -1000 less what fails first.").told(0, 5);
        proof(x, 0, 0, 0, 0, 0);
        x.due(0, "count", 7).no(-3, "prove", 0, 0);
        proof(x, -1000, 0, 0, 0, -1);
        x.due(0, "count", 7).no(-3, "prove", 0, 0);
        proof(x, -1300, 0, 0, 0, 101, 8, 101);
        x.due(0, "count", 7);
        proof(x, 500, 0, 0, 0, 100, 8, 100);
        for (int what = 11; what <= 16; what++) x.due(what == 13 ? 2 : 0, "count", what);

        x = test(21, "-1; -3 not 12 (it stays).").told(0, 5);
        for (int many = 0; many < 12; many++) {
            x.no(-3, "prove", 0, 0).no(-1, "prove", 4, 0).no(-1, "prove", 0, 2).no(-1, "prove", 256, 16);
            x.due(many + 1, "put", many);
        }
        x.no(-1, "prove", 4, 0).no(-1, "prove", 0, 2).no(-1, "prove", -1, -1).due(12, "count", 7).due(0, "prove", 0, 0);
    }
}
