/** Part II of the document: TEXTS, LAWS and RULES; promises 7 to 11, 17 and 18. */
final class EdgesOfTexts {
    private static final int LEAST = Run.LEAST;
    private static final int MOST = Run.MOST;
    private static final int[] ALL = {0, 1, 2, 3};
    private static final String FORTY = "n=0|n=1|n=2|n=3|n=4|n=5|n=6|n=7|b0|b1&b2";

    private EdgesOfTexts() {
    }

    static void all() {
        feeds();
        bytesOfTheText();
        laws();
        lawsInFull();
        partsOfLaws();
        depthOfLaws();
        faultsOfLaws();
        everyByteInLaws();
        holdings();
        rules();
        unitsOfRules();
        numbersInRules();
        thirtyTwoBits();
        depthOfRules();
        faultsOfRules();
        everyByteInRules();
        seenInRules();
        rulesInPlaceOfOthers();
        unrules();
        byRules();
        ruled();
    }

    private static Run test(int promise, String sentence) {
        return Edges.test(promise, sentence);
    }

    private static void feeds() {
        Run x = test(7, "n (1 .. 8) bytes come to the TEXT, the lowest first: how many it has.").harbours(0);
        x.due(1, "feed", 1, 'b').due(2, "feed", 1, '0').due(0, "law").due(0, "count", 6);
        x.due(8, "feed", 8, Checks.packed("!b0|b1|b".getBytes(), 0, 8)).due(9, "feed", 1, '2').due(1, "law");
        // Of n bytes no more than n come, whatever stands above them; the eighth is the highest of the long.
        x.due(2, "feed", 2, 0x7878_7878_7878_3062L).due(2, "law").due(1, "feed", 1, -256 + 'b').due(2, "feed", 1, '1');
        x.due(3, "law").due(8, "feed", 8, -1L).due(-20, "law").due(8, "feed", 8, Long.MIN_VALUE | 'b' | '0' << 8);
        x.due(-22, "law").due(1, "feed", 1, 0).due(-20, "law").due(1, "feed", 1, 255).due(-20, "law");
        x.no(-4, "feed", 0, 'b').no(-6, "feed", 9, 'b').due(7, "feed", 7, 0).no(-4, "feed", -1, 0);
        x.no(-4, "feed", LEAST, 0).no(-6, "feed", MOST, 0);

        x = test(7, "-4; -6 (above 40, too).").harbours(0);
        for (int n = 8; n <= 32; n += 8) x.due(n, "feed", 8, 0);
        x.due(33, "feed", 1, 0).no(-6, "feed", 8, 0).due(39, "feed", 6, 0).no(-6, "feed", 2, 0).no(-6, "feed", 8, 0);
        x.no(-6, "feed", 9, 0).no(-4, "feed", 0, 0).due(40, "feed", 1, 0).no(-6, "feed", 1, 0).no(-6, "feed", 8, 0);
        x.no(-6, "feed", 9, 0).no(-4, "feed", 0, 0).no(-4, "feed", LEAST, 0).no(-6, "feed", MOST, 0);
        x.due(40, "count", 6).due(-20, "law").due(0, "count", 6).due(8, "feed", 8, 0);
        x = test(7, "-4; -6 (above 40, too).");
        for (int n = 8; n <= 40; n += 8) x.due(n, "feed", 8, 0);
        for (int n = 1; n <= 8; n++) x.no(-6, "feed", n, 0);
    }

    private static void bytesOfTheText() {
        Run x = test(8, "TEXTS (40 bytes at most):").harbours(ALL);
        x.text(FORTY).due(40, "count", 6).no(-6, "feed", 1, '|').due(0, "law").set(0xFFFF);
        x.text(FORTY.substring(1)).due(-20, "law");
        x.law(-60, "n=0|n=1|n=2|n=3|n=4|n=5|n=6|n=7|n=8|!b0|").law(-60, "b0|b0|b0|b0|b0|b0|b0|b0|b0|b0|b0|b0|b0|n");
        x = test(10, "TEXTS (40 bytes at most):").told(0, 0, 0, 0, 1, 99);
        x.rule(1, 0, 0, "10+1+1+1+1+1+1+1+1+1+1+1+1+1+1+1+1+1+1+1").due(29, "byRules", 0, 0);
        x.rule(1, 0, 0, "2*2*2*2*2*2+2*2*2*2-2-2-2-2-2-2-2-2-2*10").due(64 + 16 - 16 - 20, "byRules", 0, 0);
        x.rule(1, 0, 0, "1*(1*(1*(1*(1*1+2)+3)+4)+5)+((((6+17))))").due(38, "byRules", 0, 0);
        x.rule(1, 0, 0, "1+1+1+1+1+1+1+1+1+1+1+1+1+1+1+1+1+1+1+1").due(20, "byRules", 0, 0);
        x.rule(-60, 0, 0, "1+1+1+1+1+1+1+1+1+1+1+1+1+1+1+1+1+1+1+1+").due(20, "byRules", 0, 0);
        x.rule(-60, 0, 0, "1+1+1+1+1+1+1+1+1+1+1+1+1+1+1+1+1+1+10+x").due(20, "byRules", 0, 0);
    }

    private static void laws() {
        Run x = test(8, "LAWS have numbers from 0 on (12 at most):").harbours(ALL);
        for (int law = 0; law < 12; law++) x.law(law, "b" + law % 10).due(law + 1, "count", 1);
        x.text("n<9").no(-6, "law").due(12, "count", 1).no(-1, "holds", 12, 0).due(1, "holds", 11, 0);

        x = test(8, "The TEXT, which has none then, becomes a LAW: its number;").harbours(ALL).law(0, "b0");
        x.due(0, "count", 6).due(1, "count", 1).due(1, "count", 2).set(0xAAAA).due(-20, "law").due(1, "count", 1);

        x = test(8, "or, if it has a FAULT, -20 less its place (nothing is counted).").harbours(ALL);
        x.text("b0 ").due(-22, "law").due(0, "count", 6).due(0, "count", 1).due(0, "count", 2).set(0xFFFF);
        for (int what = 11; what <= 16; what++) x.due(0, "count", what);
        x.due(-20, "law").law(-21, "b").law(0, "b1").law(-20, "").due(1, "count", 1);
        for (int what = 11; what <= 16; what++) x.due(0, "count", what);
    }

    private static void lawsInFull() {
        Run x = test(8, "-6 12.").harbours(0, 1);
        for (int law = 0; law < 11; law++) x.law(law, "n<9");
        x.law(-22, "n<").law(11, "b0").no(-6, "law").text("n<2").no(-6, "law").set(0xA & 0xF);
        // LAWS that hold no more keep their places, and a TEXT that has a FAULT is refused, too.
        for (int law = 0; law < 12; law++) x.with("holds", law, 0);
        x.no(-6, "law").due(0, "count", 2).due(12, "count", 1).set(0xF).text("?").no(-6, "law").due(4, "count", 6);

        x = test(8, "(Refused: it stays.)").told(0, 0, 0, 0, 1, 99).with("image");
        for (int law = 0; law < 12; law++) x.law(law, "n<9");
        x.text("7").no(-6, "law").no(-6, "law").due(1, "count", 6).due(2, "feed", 1, '1').due(1, "rule", 0, 0);
        x.due(71, "byRules", 0, 0).text("b0").no(-6, "law").due(1, "restore").due(2, "count", 6).due(0, "law").set(2);
    }

    private static void partsOfLaws() {
        Run x = test(8, "TEST: TERM { \"|\" TERM }; TERM: PART { \"&\" PART };").harbours(ALL);
        worldsOf(x, "b0", 0xAAAA);
        worldsOf(x, "b0|b1", 0xEEEE);
        worldsOf(x, "b0&b1", 0x8888);
        worldsOf(x, "b0|b1&b2|b3", 0xAAAA | 0xCCCC & 0xF0F0 | 0xFF00);
        worldsOf(x, "b0&b1|b2&b3", 0x8888 | 0xF000);
        worldsOf(x, "b0&b1&b2&b3", 0x8000);
        worldsOf(x, "b0|b1|b2|b3", 0xFFFE);

        String part = "PART: \"!\" PART, \"(\" TEST \")\", \"b\" and a digit (that HARBOUR goes BAD; a digit 4 .. 9: "
            + "it does not), or \"n\", one of \"<\", \"=\", \">\", and a digit (how many go BAD).";
        x = test(8, part).harbours(ALL);
        int[] bad = {0xAAAA, 0xCCCC, 0xF0F0, 0xFF00, 0, 0, 0, 0, 0, 0};
        for (int digit = 0; digit <= 9; digit++) {
            if (digit == 5) x = test(8, part).harbours(ALL);
            worldsOf(x, "b" + digit, bad[digit]);
            worldsOf(x, "!b" + digit, 0xFFFF & ~bad[digit]);
        }
        int[] few = {0, 0x0001, 0x0117, 0x177F, 0x7FFF, 0xFFFF, 0xFFFF, 0xFFFF, 0xFFFF, 0xFFFF, 0xFFFF};
        for (int digit = 0; digit <= 9; digit++) {
            x = test(8, part).harbours(ALL);
            worldsOf(x, "n<" + digit, few[digit]);
            worldsOf(x, "n=" + digit, few[digit + 1] & ~few[digit]);
            worldsOf(x, "n>" + digit, 0xFFFF & ~few[digit + 1]);
        }
        x = test(8, part).harbours(ALL);
        worldsOf(x, "!b0&b1", 0x4444);
        worldsOf(x, "!(b0&b1)", 0x7777);
        worldsOf(x, "(b0|b1)&b2", 0xE0E0);
        worldsOf(x, "!!b0", 0xAAAA);
        worldsOf(x, "(!(b0))|(b1)", 0xDDDD);
        // A harbour that is not there does not go BAD, and as it is there the LAW speaks of it.
        x = test(8, part).harbours(0).law(0, "!b3|n=2").set(3).harbours(3).set(0x0203).law(1, "b3").set(0x0200);
        x = test(8, part).harbours(0).law(0, "b3").set(0).harbours(3).set(0x0300);
    }

    /** The law alone, on four harbours. */
    private static void worldsOf(Run x, String law, int worlds) {
        int number = x.get("count", 1);
        x.law(number, law).set(worlds).due(1, "holds", number, 0);
    }

    private static void depthOfLaws() {
        Run x = test(8, "\"!\", \"(\" 4 deep at most.").harbours(ALL);
        worldsOf(x, "!!!!b0", 0xAAAA);
        worldsOf(x, "((((b0))))", 0xAAAA);
        worldsOf(x, "!(!(b0))", 0xAAAA);
        worldsOf(x, "(!(!b0))", 0xAAAA);
        worldsOf(x, "((((b0))))&((((b1))))|!!!!b2", 0x8888 | 0xF0F0);
        worldsOf(x, "(((!b0|!b1)&(b2|!b3)))", 0x7777 & (0xF0F0 | 0x00FF));
        x.law(-24, "!!!!!b0").law(-24, "(((((b0)))))").law(-24, "!(!(!b0))").law(-24, "((!((b0))))");
        x.law(-24, "!!!!(b0)").law(-24, "((((!b0))))").law(-24, "!!!!!").law(-24, "(((((").law(-24, "((((((");
        // Deep once does not make deep for what follows; what follows may be too deep of its own.
        x.law(-31, "!!!!b0&!!!!!b1").law(-30, "((((b0|b1|(b2)))))").law(-30, "((((b0))))(");
        x.law(-27, "((((b0|(b1)))))").law(-27, "(!((b0&!b1)))").law(-26, "(!((b0!))&");
    }

    private static void faultsOfLaws() {
        String first = "FAULT (of both): the place of the first byte that can not stand";
        Run x = test(8, first).harbours(ALL);
        x.law(-20, " b0").law(-22, "b0 ").law(-21, "b b0").law(-22, "b0b1").law(-22, "b00").law(-23, "n<00");
        x.law(-21, "n0").law(-22, "n<<").law(-22, "n<=2").law(-23, "b0||b1").law(-23, "b0&&b1").law(-23, "b0|&b1");
        x.law(-20, "|b0").law(-20, "&b0").law(-22, "b0)").law(-20, ")").law(-21, "()").law(-24, "(b0|)").law(-21, "!)");
        x.law(-22, "b0!").law(-22, "b0(").law(-24, "(b0)b1").law(-24, "(b0))").law(-20, "B0").law(-20, "N<1").law(-20, "0");
        x.law(-20, "x0").law(-20, "s0").law(-20, "?b?").law(-23, "n<1n<1").law(-20, "<1").law(-20, "=").law(-20, ">");

        String end = "(the end, if something lacks;";
        x = test(8, end).harbours(ALL);
        x.law(-20, "").law(-21, "b").law(-21, "n").law(-22, "n<").law(-22, "n=").law(-22, "n>").law(-21, "!").law(-21, "(");
        x.law(-23, "(b0").law(-23, "b0|").law(-23, "b0&").law(-24, "(b0|").law(-25, "((b0)").law(-24, "!!!!");
        x.law(-24, "((((").law(-29, "((((b0)))").law(-24, "!(b3").law(-24, "!b0&");

        String fifth = "of a fifth \"!\" or \"(\" its own);";
        x = test(8, fifth).harbours(ALL);
        for (int bits = 0; bits < 32; bits++) {
            StringBuilder deep = new StringBuilder();
            for (int i = 0; i < 5; i++) deep.append((bits >> i & 1) == 0 ? '!' : '(');
            x.law(-24, deep.toString()).law(-24, deep + "b0");
        }
    }

    /** Every byte at every place of the grammar: which of them may stand there. */
    private static void everyByteInLaws() {
        everyByte("", "!(bn", "", 1);
        everyByte("b", "", "0123456789", 2);
        everyByte("n", "<=>", "", 2);
        everyByte("n>", "", "0123456789", 3);
        everyByte("b0", "|&", "", 3);
        everyByte("n=3", "|&", "", 4);
        everyByte("!", "!(bn", "", 2);
        everyByte("(", "!(bn", "", 2);
        everyByte("(b0", "|&", ")", 4);
        everyByte("b0|", "!(bn", "", 4);
        everyByte("b0&", "!(bn", "", 4);
        everyByte("(b0)", "|&", "", 5);
        everyByte("((b0)", "|&", ")", 6);
        everyByte("!!!!", "bn", "", 5);
        everyByte("((((", "bn", "", 5);
    }

    /** Behind the text those of open may stand but something lacks then (at the end), those of full end a LAW. */
    private static void everyByte(String text, String open, String full, int end) {
        String first = "FAULT (of both): the place of the first byte that can not stand";
        Run x = null;
        for (int sign = 0; sign < 256; sign++) {
            if (sign % 128 == 0) x = test(8, first).harbours(ALL);
            String all = text + (char) sign;
            if (full.indexOf(sign) >= 0) test(8, first).harbours(ALL).law(0, all);
            else x.law(-20 - (open.indexOf(sign) >= 0 ? end : text.length()), all);
        }
    }

    private static void holdings() {
        Run x = test(9, "A LAW holds no more (on false), or again: 1; 0 it was so.").harbours(ALL).law(0, "b0").law(1, "b1");
        x.asks(0, "holds", 0, 1).asks(0, "holds", 1, 1).due(1, "holds", 0, 0).asks(0, "holds", 0, 0).set(0xCCCC);
        x.due(1, "count", 2).due(1, "holds", 1, 0).set(0xFFFF).due(0, "count", 2).due(2, "count", 1);
        x.due(1, "holds", 0, 1).asks(0, "holds", 0, 1).set(0xAAAA).due(1, "holds", 1, 1).set(0x8888);

        x = test(9, "-1.").harbours(0).no(-1, "holds", 0, 1).no(-1, "holds", 0, 0).no(-1, "holds", -1, 1);
        for (int law = 0; law < 12; law++) x.law(law, "n<9").no(-1, "holds", law + 1, 0).due(1, "holds", law, 0);
        for (int law : new int[] {-1, 12, 13, 32, LEAST, MOST}) x.no(-1, "holds", law, 0).no(-1, "holds", law, 1);
        x.due(1, "holds", 11, 1).due(1, "count", 2);
    }

    private static void rules() {
        String day = "RULES for later, of a HARBOUR and a DAY (0 .. 9) by which it is settled: TEXTS:";
        Run x = test(10, day).told(0, 0, 0, 0, 1, 99).text("5");
        x.no(-4, "rule", 0, -1).no(-6, "rule", 0, 10).no(-4, "rule", 0, LEAST).no(-6, "rule", 0, MOST).due(1, "rule", 0, 0);
        x.rule(1, 0, 9, "6").due(6, "byRules", 0, 0).due(1, "count", 3);
        x = test(10, day).harbours(ALL);
        for (int h : ALL) x.with("tell", h, 3, 1).with("tell", h, 4, 99).rule(1, h, h, "" + (h + 1)).due(h + 1, "count", 3);
        x.due(10, "byRules", 0, 0).with("unrule", 1).due(8, "byRules", 0, 0);

        x = test(10, "The TEXT becomes the RULE of a HARBOUR by a DAY: 1;").told(2, 0, 0, 0, 1, 99).rule(1, 2, 0, "3");
        x.due(0, "count", 6).due(1, "count", 3).due(-20, "rule", 2, 0).due(3, "byRules", 0, 0);

        x = test(10, "FAULT as of law().").told(2, 0, 0, 0, 1, 99).rule(1, 2, 0, "3").text("4+").due(-22, "rule", 2, 0);
        x.due(0, "count", 6).due(1, "count", 3).due(3, "byRules", 0, 0).rule(-20, 2, 9, "").rule(-60, 2, 9, "1+".repeat(20));
        for (int what = 11; what <= 16; what++) x.due(0, "count", what);

        x = test(10, "-1; -4; -6.").harbours(1).text("4");
        for (int h : new int[] {-1, 0, 2, 3, 4, LEAST, MOST}) {
            x.no(-1, "rule", h, 0).no(-1, "rule", h, -1).no(-1, "rule", h, 10);
        }
        x.no(-4, "rule", 1, -1).no(-6, "rule", 1, 10).text("?").no(-1, "rule", 0, 0).no(-4, "rule", 1, -1);
        x.no(-6, "rule", 1, 10).due(-21, "rule", 1, 9);

        x = test(10, "(Refused: it stays.)").told(1, 0, 0, 0, 1, 99).text("4").no(-1, "rule", 0, 0).no(-4, "rule", 1, -1);
        x.no(-6, "rule", 1, 10).due(1, "count", 6).due(2, "feed", 1, '2').due(1, "rule", 1, 0).due(42, "byRules", 0, 0);
    }

    /** What a rule of harbour 0 says for a PLAN in a WORLD; DEAR is 1, LIMIT 99, no harbour needs anything. */
    private static void says(Run x, String rule, int want, int plan, int world) {
        x.rule(1, 0, 9, rule).due(want, "byRules", plan, world);
    }

    private static Run four(int promise, String sentence) {
        return test(promise, sentence).harbours(ALL).with("tell", 0, 3, 1).with("tell", 0, 4, 99);
    }

    private static void unitsOfRules() {
        Run x = four(17, "SUM: PRODUCT { \"+\" PRODUCT, \"-\" PRODUCT }; PRODUCT: UNIT { \"*\" UNIT };");
        says(x, "7", 7, 0, 0);
        says(x, "7+8", 15, 0, 0);
        says(x, "8-7", 1, 0, 0);
        says(x, "7-8", 0, 0, 0);
        says(x, "7-8+9", 8, 0, 0);
        says(x, "20-8-7", 5, 0, 0);
        says(x, "20-8*2", 4, 0, 0);
        says(x, "2*3+4*5-6*2", 14, 0, 0);
        says(x, "2*3*4", 24, 0, 0);
        says(x, "2*(3-4)*(5-9)", 8, 0, 0);

        x = four(17, "\"x\" and a digit (ferries at that HARBOUR; 4 .. 9: 0),");
        int plan = 1 + 2 * 4 + 3 * 16;
        int[] ferries = {1, 2, 3, 0, 0, 0, 0, 0, 0, 0};
        for (int digit = 0; digit <= 9; digit++) says(x, "x" + digit + "*5+4", ferries[digit] * 5 + 4, plan, 15);
        for (int digit = 0; digit <= 9; digit++) says(x, "x" + digit + "*5", digit < 4 ? 15 : 0, 255, 0);
        for (int digit = 0; digit <= 9; digit++) says(x, "x" + digit + "+1", 1, 0, 15);

        x = four(17, "\"s\" and a digit (1 if that one is SEEN to be BAD, else 0),");
        for (int h : ALL) {
            says(x, "s" + h, 1, 0, 1 << h);
            says(x, "s" + h, 0, 255, 15 & ~(1 << h));
            says(x, "s" + h + "*9", 9, 0, 15);
            says(x, "s" + h, 0, 0, 0);
        }
        says(x, "s0+s1*2+s2*4+s3*8", 13, 0, 13);
    }

    private static void numbersInRules() {
        Run x = four(10, "UNIT: a number of 1 to 3 digits,");
        says(x, "0", 0, 0, 0);
        says(x, "9", 9, 0, 0);
        says(x, "10", 10, 0, 0);
        says(x, "98", 98, 0, 0);
        says(x, "000", 0, 0, 0);
        says(x, "007", 7, 0, 0);
        says(x, "070", 70, 0, 0);
        says(x, "999-901", 98, 0, 0);
        says(x, "100-99", 1, 0, 0);
        x.rule(-23, 0, 9, "0000").rule(-23, 0, 9, "1000").rule(-25, 0, 9, "1+1234").rule(-24, 0, 9, "(1000)");
        x.rule(-20, 0, 9, "+1").rule(-20, 0, 9, "-1").rule(-21, 0, 9, "1 2").rule(-21, 0, 9, "1.5");
    }

    private static void thirtyTwoBits() {
        Run x = four(17, "In 32 bits, as machines do.");
        String greatest = "256*256*256*127+255*256*256+255*256+255";
        says(x, greatest, 99, 0, 0);
        says(x, greatest.replace("+255*256+255", "+255*256+256"), 0, 0, 0);
        says(x, "256*256*256*128", 0, 0, 0);
        says(x, "256*256*256*128-1", 99, 0, 0);
        says(x, "256*256*256*128+256*256*256*128+5", 5, 0, 0);
        says(x, "0-256*256*256*128", 0, 0, 0);
        says(x, "0-256*256*256*128-1", 99, 0, 0);
        says(x, "256*256*256*256", 0, 0, 0);
        says(x, "256*256*256*256+98", 98, 0, 0);
        says(x, "256*256*256*255+256*256*256", 0, 0, 0);
        says(x, "256*256*256*255+256*256*256+42", 42, 0, 0);
        says(x, "(0-1)*256*256*256*255-256*256*256+42", 42, 0, 0);
        // 65537 times 65537 less 131072 is 1 in 32 bits.
        says(x, "(256*256+1)*(256*256+1)-256*512", 1, 0, 0);
        int power = 999 * 999 * 999 * 999 * 999;
        says(x, "999*999*999*999*999", Math.max(0, Math.min(99, power)), 0, 0);
        int other = 987 * 987 * 987 * 987 * 987 * 987;
        says(x, "987*987*987*987*987*987", Math.max(0, Math.min(99, other)), 0, 0);
    }

    private static void depthOfRules() {
        Run x = four(10, "\"(\" SUM \")\" (4 deep at most).");
        says(x, "(7)", 7, 0, 0);
        says(x, "((((7))))", 7, 0, 0);
        says(x, "((((7))))+((((8))))", 15, 0, 0);
        says(x, "1+(1+2*(1+2*(1+2*(1+1))))", 24, 0, 0);
        x.rule(-24, 0, 9, "(((((7)))))").rule(-24, 0, 9, "(((((").rule(-34, 0, 9, "((((7))))+(((((");
        x.rule(-34, 0, 9, "((((7))))*(((((8)))))").rule(-26, 0, 9, "((((7+(8)))))").rule(-29, 0, 9, "((((7))))(");
    }

    private static void faultsOfRules() {
        String first = "FAULT (of both): the place of the first byte that can not stand";
        Run x = four(10, first);
        x.rule(-20, 0, 9, " 1").rule(-21, 0, 9, "1 ").rule(-21, 0, 9, "1x0").rule(-22, 0, 9, "x0x1").rule(-22, 0, 9, "x00");
        x.rule(-22, 0, 9, "s00").rule(-22, 0, 9, "1+*2").rule(-22, 0, 9, "1--2").rule(-22, 0, 9, "1*-2").rule(-20, 0, 9, "*");
        x.rule(-20, 0, 9, ")").rule(-21, 0, 9, "()").rule(-21, 0, 9, "1)").rule(-23, 0, 9, "(1))").rule(-23, 0, 9, "(1+)");
        x.rule(-23, 0, 9, "(1)2").rule(-23, 0, 9, "(1)(2)").rule(-20, 0, 9, "b0").rule(-20, 0, 9, "n<1").rule(-20, 0, 9, "X0");
        x.rule(-20, 0, 9, "S0").rule(-21, 0, 9, "x-").rule(-21, 0, 9, "s-").rule(-21, 0, 9, "1|2").rule(-21, 0, 9, "1&2");
        x.rule(-20, 0, 9, "!1").rule(-21, 0, 9, "1/2");

        x = four(10, "(the end, if something lacks;");
        x.rule(-20, 0, 9, "").rule(-21, 0, 9, "x").rule(-21, 0, 9, "s").rule(-21, 0, 9, "(").rule(-22, 0, 9, "1+");
        x.rule(-22, 0, 9, "1-").rule(-22, 0, 9, "1*").rule(-22, 0, 9, "(1").rule(-23, 0, 9, "(1+").rule(-24, 0, 9, "((1)");
        x.rule(-24, 0, 9, "((((").rule(-28, 0, 9, "((((1)))").rule(-23, 0, 9, "1+x").rule(-23, 0, 9, "1*s");

        x = four(10, "of a fifth \"!\" or \"(\" its own);");
        x.rule(-24, 0, 9, "(((((").rule(-24, 0, 9, "(((((1").rule(-24, 0, 9, "((((((").rule(-26, 0, 9, "((((1+(1");
        x.rule(-20, 0, 9, "!").rule(-24, 0, 9, "((((!");
    }

    private static void everyByteInRules() {
        String digits = "0123456789";
        everyRuleByte("", "xs(", digits, 1);
        everyRuleByte("1", "+-*", digits, 2);
        everyRuleByte("12", "+-*", digits, 3);
        everyRuleByte("123", "+-*", "", 4);
        everyRuleByte("x", "", digits, 2);
        everyRuleByte("s", "", "0123", 2);
        everyRuleByte("x0", "+-*", "", 3);
        everyRuleByte("s3", "+-*", "", 3);
        everyRuleByte("1+", "xs(", digits, 3);
        everyRuleByte("1-", "xs(", digits, 3);
        everyRuleByte("1*", "xs(", digits, 3);
        everyRuleByte("(", "xs(", "", 2, digits);
        everyRuleByte("(1", "+-*", ")", 3, digits);
        everyRuleByte("(123", "+-*", ")", 5);
        everyRuleByte("(1)", "+-*", "", 4);
        everyRuleByte("((((", "xs", "", 5, digits);
    }

    private static void everyRuleByte(String text, String open, String full, int end, String... more) {
        String first = "FAULT (of both): the place of the first byte that can not stand";
        String lacking = more.length > 0 ? open + more[0] : open;
        Run x = null;
        for (int sign = 0; sign < 256; sign++) {
            if (sign % 128 == 0) x = four(10, first);
            boolean stands = full.indexOf(sign) >= 0;
            int place = lacking.indexOf(sign) >= 0 ? end : text.length();
            x.rule(stands ? 1 : -20 - place, 0, 9, text + (char) sign);
        }
    }

    private static void seenInRules() {
        String words = "of an \"s\" whose HARBOUR is SEEN behind the RULE's DAY (or is not there, or 4 .. 9) that of its digit.";
        for (int day = 0; day <= 9; day++) {
            Run x = test(10, words).told(0, 0, 0, 0, 1, 99, 0).told(1, 0, 0, 0, 0, 0, day);
            for (int by = 0; by <= 9; by++) x.rule(by >= day ? 1 : -21, 0, by, "s1").rule(1, 0, by, "s0");
        }
        Run x = test(10, words).told(0, 0, 0, 0, 1, 99, 3).told(2, 0, 0, 0, 0, 0, 4);
        x.rule(-21, 0, 9, "s1").rule(-21, 0, 9, "s3");
        for (int digit = 4; digit <= 9; digit++) x.rule(-21, 0, 9, "s" + digit).rule(-23, 0, 9, "1+s" + digit + "+");
        // In reading order: what can not stand before the "s", and what can not stand behind it.
        x.rule(-21, 0, 2, "s0+").rule(-20, 0, 2, "?s0").rule(-24, 0, 3, "s0+s2+?").rule(-27, 0, 4, "s0+s2+s1");
        x.rule(-25, 0, 9, "((((s9))))").rule(-24, 0, 9, "(((((s9)))))").rule(-21, 0, 9, "s").rule(-21, 0, 9, "sx");
        x.rule(1, 0, 4, "s0+s2").harbours(1, 3).rule(1, 0, 9, "s1+s3").rule(1, 0, 0, "s1+s3").rule(1, 0, 0, "x1+x3");
        // The rule's own harbour is as any other, and "x" may be asked of any DAY and any digit.
        x.rule(-21, 2, 3, "s2").rule(1, 2, 4, "s2").rule(1, 2, 0, "x0+x2+x9");
    }

    private static void rulesInPlaceOfOthers() {
        String words = "A RULE takes the place of an earlier one of its HARBOUR; as a DAY is told anew, RULES stay as they were read.";
        Run x = test(10, words).told(0, 0, 0, 0, 1, 99, 5).told(1, 0, 0, 0, 1, 99, 5);
        x.rule(1, 0, 9, "50").rule(1, 1, 9, "20").due(70, "byRules", 0, 0).rule(1, 0, 0, "4").due(24, "byRules", 0, 0);
        x.due(2, "count", 3).rule(-21, 0, 4, "s0").due(24, "byRules", 0, 0).rule(1, 0, 5, "s0*7").due(27, "byRules", 0, 1);
        x.due(20, "byRules", 0, 0).with("tell", 0, 5, 9).due(27, "byRules", 0, 1).due(2, "count", 3);
        x.with("tell", 0, 5, 0).due(27, "byRules", 0, 1).with("tell", 0, 5, 6).rule(-21, 0, 5, "s0*7").due(27, "byRules", 0, 1);
        x.with("undo").with("undo").with("undo").rule(1, 0, 5, "s0*8").due(28, "byRules", 0, 1);
        x = test(10, words).told(0, 0, 0, 0, 1, 99, 5).rule(1, 0, 5, "s0").with("image").with("tell", 0, 5, 6);
        x.rule(-21, 0, 5, "s0").with("unrule", 0).with("restore").due(1, "byRules", 0, 1).rule(1, 0, 5, "s0*2");
    }

    private static void unrules() {
        Run x = test(11, "A HARBOUR has no RULE any more: 1; 0 it had none.").told(0, 0, 0, 0, 1, 9).told(3, 0, 0, 0, 1, 9);
        x.asks(0, "unrule", 0).asks(0, "unrule", 3).rule(1, 0, 0, "5").rule(1, 3, 0, "0").asks(5, "byRules", 0, 0);
        x.due(1, "unrule", 0).asks(0, "unrule", 0).due(0, "byRules", 0, 0).due(1, "count", 3).due(1, "unrule", 3);
        x.asks(0, "unrule", 3).due(0, "count", 3).rule(-21, 0, 0, "x").asks(0, "unrule", 0);

        x = test(11, "-1.").harbours(1).rule(1, 1, 0, "5");
        for (int h : new int[] {-1, 0, 2, 3, 4, LEAST, MOST}) x.no(-1, "unrule", h);
        x.due(1, "unrule", 1);
    }

    private static void byRules() {
        String words = "BY RULES: each HARBOUR has so much later as its RULE says (0 at least, LIMIT at most; without one 0) "
            + "at DEAR each, nothing is moved, what lacks still is LEFT. (What is had and not needed is paid, too.)";
        Run x = test(17, words).told(0, 10, 0, 0, 3, 7);
        x.due(1000, "byRules", 0, 0);
        int[] said = {0, 1, 6, 7, 8, 99, 999};
        int[] had = {0, 1, 6, 7, 7, 7, 7};
        for (int i = 0; i < said.length; i++) {
            x.rule(1, 0, 0, "" + said[i]).due(had[i] * 3 + (10 - had[i]) * 100, "byRules", 0, 0);
        }
        x.rule(1, 0, 0, "5-6").due(1000, "byRules", 0, 0).rule(1, 0, 0, "5-5").due(1000, "byRules", 0, 0);
        x.rule(1, 0, 0, "6-5").due(3 + 900, "byRules", 0, 0);
        x.with("tell", 0, 4, 0).due(1000, "byRules", 0, 0).with("tell", 0, 4, 99).rule(1, 0, 0, "11");
        x.due(33, "byRules", 0, 0).due(33, "byRules", 1, 0).due(33, "byRules", 3, 0).rule(1, 0, 0, "10").due(30, "byRules", 0, 0);
        x.rule(1, 0, 0, "9").due(27 + 100, "byRules", 0, 0).rule(1, 0, 0, "999").due(99 * 3, "byRules", 0, 0);
        // LEFT is cheaper than DEAR, and MOVE costs nothing: rules do not look at that.
        x = test(17, words).told(0, 4, 0, 0, 99, 9).told(1, 0).with("move", 1, 0, 0).with("set", 1, 1).rule(1, 0, 0, "4");
        x.due(4 * 99, "byRules", 0, 0).due(4 * 99, "byRules", 4, 0).with("unrule", 0).due(4, "byRules", 12, 0);
        x.due(0, "later", 4, 0).with("tell", 0, 0, 10).due(0, "byRules", 1, 0).with("tell", 0, 0, 11).due(1, "byRules", 1, 0);

        x = test(17, "COST BY RULES in a WORLD.").told(0, 5, 6, 7, 2, 9).rule(1, 0, 0, "s0*4").asks(500, "byRules", 0, 0);
        x.asks(8 + 700, "byRules", 0, 1).asks(7, "byRules", 1, 0).asks(7 + 8, "byRules", 1, 1).with("set", 2, 0);
        x.asks(8 + 700, "byRules", 0, 1).law(0, "b9").asks(8 + 700, "byRules", 0, 1);
        x = test(17, "-1.").harbours(0).no(-1, "byRules", 4, 0).no(-1, "byRules", 0, 2).no(-1, "byRules", 4, 2);
        x.no(-1, "byRules", LEAST, MOST).no(-1, "byRules", MOST, LEAST).asks(0, "byRules", 3, 1);
        x = test(17, "COST BY RULES in a WORLD.").harbours(ALL).with("set", 1, 999);
        for (int h : ALL) {
            x.with("tell", h, 0, 99).with("tell", h, 1, 99).with("tell", h, 2, 999).with("tell", h, 3, 99).with("tell", h, 4, 99);
        }
        x.due(4 * 198 * 999, "byRules", 0, 15).with("set", 0, 50);
        for (int h : ALL) x.rule(1, h, 0, "999");
        x.due(12 * 999 + 4 * 99 * 99, "byRules", 255, 15).due(4 * 99 * 99 + 4 * 99 * 999, "byRules", 0, 15);
    }

    private static void ruled() {
        String words = "WORST BY RULES likewise; LOSS: of a PLAN: WORST BY RULES less WORST.";
        Run x = test(18, words).told(0, 0, 8, 0, 5, 9).told(1, 0, 8, 0, 5, 9);
        x.due(1600, "ruled", 0, 0).due(1600 - 80, "ruled", 0, 1).rule(1, 0, 0, "s0*8").rule(1, 1, 0, "s1*8");
        x.due(80, "ruled", 0, 0).due(0, "ruled", 0, 1).rule(1, 1, 0, "8").due(80, "ruled", 0, 0).with("set", 2, 0);
        x.due(40, "ruled", 0, 0).due(40, "ruled", 0, 1).with("set", 2, 1).due(80, "ruled", 0, 0).due(40, "ruled", 0, 1);
        // The WORLD that is worst by rules need not be the one that is worst.
        x = test(18, words).told(0, 0, 8, 0, 5, 9).told(1, 0, 9, 0, 5, 9).with("set", 2, 1).rule(1, 1, 0, "9");
        x.due(845, "ruled", 0, 0).due(800, "ruled", 0, 1).law(0, "!b0").due(45, "ruled", 0, 0).due(0, "ruled", 0, 1);

        x = test(18, "WORST BY RULES (what 0), LOSS (1); -9 none.").told(0, 3, 4).asks(700, "ruled", 0, 0).asks(0, "ruled", 0, 1);
        x.law(0, "n>1").asks(-9, "ruled", 0, 0).asks(-9, "ruled", 0, 1);

        x = test(18, "-1; -2.").harbours(0);
        for (int what : new int[] {-1, 2, LEAST, MOST}) x.no(-2, "ruled", 0, what).no(-1, "ruled", 4, what);
        x.no(-1, "ruled", 4, 0).no(-1, "ruled", -1, 1).law(0, "b9").no(-1, "ruled", 4, 0).no(-2, "ruled", 0, 2);
        x.no(-1, "ruled", 256, 2);
    }
}
