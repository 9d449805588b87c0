import java.util.Arrays;

/** Ferries that are hired now, worlds that are shown later, and what a plan costs in the worst of them. */
public final class FerryPlans {
    private static final int HARBOURS = 4;
    private static final int WORLDS = 16;
    private static final int PLANS = 256;

    private static final int NOBODY = -1;
    private static final int OTHER = -2;
    private static final int STATE = -3;
    private static final int BELOW = -4;
    private static final int ROOM = -6;
    private static final int NONE = -9;
    private static final int FAULTS = -20;
    private static final int FAILS = -1000;

    private static final int NEED = 0;
    private static final int MORE = 1;
    private static final int PRICE = 2;
    private static final int DEAR = 3;
    private static final int LIMIT = 4;
    private static final int DAY = 5;
    private static final int KINDS = 6;
    private static final int[] GREATEST = {99, 99, 999, 99, 99, 9};

    // Every number that can be told has one slot, so that each change is taken back in one way.
    private static final int MOVES = HARBOURS * KINDS;
    private static final int COMMON = MOVES + HARBOURS * HARBOURS;
    private static final int CARRIES = COMMON;
    private static final int LEFT = COMMON + 1;
    private static final int BUDGET = COMMON + 2;
    private static final int SLOTS = COMMON + 3;
    private static final int[] COMMON_LEAST = {1, 0, 0};
    private static final int[] COMMON_GREATEST = {50, 999, 4};

    private static final int MOVE_MOST = 99;
    private static final int DAY_MOST = 9;
    private static final int BUDGET_MOST = 4;
    private static final int MARK_MOST = 99999;
    private static final int ROUNDS_MOST = 99;
    private static final int LAWS_MOST = 12;
    private static final int YEARS_MOST = 60;
    private static final int CHANGES_MOST = 40;
    private static final int BYTES_MOST = 40;
    private static final int FED_MOST = 8;
    private static final int DEEPEST = 4;
    private static final int DIGITS_MOST = 3;
    private static final int ROW = 12;
    private static final int FACTOR_MOST = 9999;
    private static final int FEWEST_MOST = 3;
    private static final int LACK_MOST = 198;

    private final Told told = new Told();
    private final Told kept = new Told();
    private boolean hasImage = false;
    private final Changes changes = new Changes();
    private final Text text = new Text();
    private final int[] row = new int[ROW];
    private int rowLength = 0;
    private final int[] refusals = new int[7];
    private final Rules rules = new Rules(told);
    private final Costs costs = new Costs(told);
    private final Closing closing = new Closing(costs);
    private final Bearers bearers = new Bearers(costs);

    public FerryPlans() {
    }

    public int harbour(int h) {
        if (h < 0 || h >= HARBOURS) return refuse(NOBODY);
        if (told.isHarbour(h)) return refuse(STATE);
        told.there |= 1 << h;
        costs.forget();
        return 1;
    }

    public int tell(int h, int what, int v) {
        if (!told.isHarbour(h)) return refuse(NOBODY);
        if (what < 0 || what >= KINDS) return refuse(OTHER);
        return change(h * KINDS + what, v, 0, GREATEST[what]);
    }

    public int move(int from, int to, int v) {
        if (!told.isHarbour(from) || !told.isHarbour(to) || from == to) return refuse(NOBODY);
        return change(MOVES + from * HARBOURS + to, v, 0, MOVE_MOST);
    }

    public int set(int what, int v) {
        if (what < 0 || what >= COMMON_LEAST.length) return refuse(OTHER);
        return change(COMMON + what, v, COMMON_LEAST[what], COMMON_GREATEST[what]);
    }

    public int undo() {
        if (changes.size == 0) return refuse(STATE);
        changes.takeBack(told.numbers);
        costs.forget();
        return 1;
    }

    public int feed(int n, long bytes) {
        if (n < 1) return refuse(BELOW);
        if (n > FED_MOST || text.length + n > BYTES_MOST) return refuse(ROOM);
        text.append(n, bytes);
        return text.length;
    }

    public int law() {
        if (told.laws >= LAWS_MOST) return refuse(ROOM);
        int worlds = Laws.worldsOf(text);
        return text.fault >= 0 ? FAULTS - text.fault : told.addLaw(worlds);
    }

    public int holds(int law, boolean on) {
        if (law < 0 || law >= told.laws) return refuse(NOBODY);
        boolean was = (told.holding >> law & 1) == 1;
        if (was == on) return 0;
        told.holding ^= 1 << law;
        return 1;
    }

    public int rule(int h, int day) {
        if (!told.isHarbour(h)) return refuse(NOBODY);
        if (day < 0) return refuse(BELOW);
        if (day > DAY_MOST) return refuse(ROOM);
        rules.read(text, told.seenBy(day));
        if (text.fault >= 0) return FAULTS - text.fault;
        rules.keep(h);
        return 1;
    }

    public int unrule(int h) {
        if (!told.isHarbour(h)) return refuse(NOBODY);
        if (told.rules[h].length == 0) return 0;
        told.rules[h].length = 0;
        return 1;
    }

    public int inSet(int world) {
        if (world < 0 || world >= WORLDS) return refuse(NOBODY);
        return theSet() >> world & 1;
    }

    public int later(int plan, int world) {
        if (!told.isPlan(plan) || !told.isWorld(world)) return refuse(NOBODY);
        return costs.of(plan, world) - told.fare(plan);
    }

    public int cost(int plan, int world) {
        if (!told.isPlan(plan) || !told.isWorld(world)) return refuse(NOBODY);
        return costs.of(plan, world);
    }

    public int worst(int plan, int what) {
        if (!told.isPlan(plan)) return refuse(NOBODY);
        if (what != 0 && what != 1) return refuse(OTHER);
        return what == 0 ? costs.worstOver(plan, theSet()) : costs.worstWorld(plan, theSet());
    }

    public int best(int what) {
        if (what != 0 && what != 1) return refuse(OTHER);
        int least = costs.bestOver(theSet());
        return what == 0 ? costs.bestPlan : least;
    }

    public int byRules(int plan, int world) {
        if (!told.isPlan(plan) || !told.isWorld(world)) return refuse(NOBODY);
        return rules.costOf(plan, world);
    }

    public int ruled(int plan, int what) {
        if (!told.isPlan(plan)) return refuse(NOBODY);
        if (what != 0 && what != 1) return refuse(OTHER);
        int worlds = theSet();
        if (worlds == 0) return NONE;
        int most = rules.worstOver(plan, worlds);
        return what == 0 ? most : most - costs.worstOver(plan, worlds);
    }

    public int close(int n, int what) {
        if (what < 0 || what > 5) return refuse(OTHER);
        if (n < 1) return refuse(BELOW);
        if (n > ROUNDS_MOST) return refuse(ROOM);
        int worlds = theSet();
        if (worlds == 0) return NONE;
        closing.run(n, worlds);
        return closing.answer(what);
    }

    public int put(int v) {
        if (rowLength >= ROW) return refuse(ROOM);
        row[rowLength] = v;
        rowLength++;
        return rowLength;
    }

    public int prove(int plan, int world) {
        if (!told.isPlan(plan) || !told.isWorld(world)) return refuse(NOBODY);
        if (rowLength != ROW) return refuse(STATE);
        rowLength = 0;
        int failure = Proof.failureOf(row, told, plan, world);
        return failure >= 0 ? FAILS - failure : Proof.worthOf(row, told, plan, world);
    }

    public int promise(int plan, int day, int world) {
        if (!told.isPlan(plan) || !told.isWorld(world)) return refuse(NOBODY);
        if (day < 0) return refuse(BELOW);
        if (day > DAY_MOST) return refuse(ROOM);
        return costs.worstOver(plan, alike(theSet(), world, told.seenBy(day)));
    }

    public int corner(int budget) {
        if (budget < 0) return refuse(BELOW);
        if (budget > BUDGET_MOST) return refuse(ROOM);
        return costs.bestOver(told.worldsWith(budget));
    }

    public int flat() {
        int calm = told.worldsWith(0);
        if (costs.bestOver(theSet()) == NONE || calm == 0) return NONE;
        int plan = costs.bestPlan;
        int same = costs.worstOver(plan, calm);
        int budget = 0;
        for (int b = 1; b <= BUDGET_MOST; b++) {
            if (costs.worstOver(plan, told.worldsWith(b)) == same) budget = b;
        }
        return budget;
    }

    public int foreknown(int h, int what) {
        if (!told.isHarbour(h)) return refuse(NOBODY);
        if (what != 0 && what != 1) return refuse(OTHER);
        int worlds = theSet();
        if (worlds == 0) return NONE;
        int known = costWithWord(h, worlds);
        return what == 0 ? known : costs.bestOver(worlds) - known;
    }

    public int dearest() {
        int worlds = theSet();
        if (worlds == 0) return NONE;
        // The word that leaves the least cost is worth most, as all are taken from one BEST COST.
        int dearest = NONE;
        int least = 0;
        for (int h = 0; h < HARBOURS; h++) {
            if (!told.isHarbour(h)) continue;
            int known = costWithWord(h, worlds);
            if (dearest == NONE || known < least) {
                dearest = h;
                least = known;
            }
        }
        return dearest;
    }

    public int who(int plan, int what) {
        if (!told.isPlan(plan)) return refuse(NOBODY);
        if (what != 0 && what != 1) return refuse(OTHER);
        int worlds = theSet();
        if (worlds == 0) return NONE;
        int bearer = NONE;
        int most = NONE;
        for (int h = 0; h < HARBOURS; h++) {
            if (!told.isHarbour(h)) continue;
            int units = rules.mostLeft(h, plan, worlds);
            if (units > most) {
                bearer = h;
                most = units;
            }
        }
        return what == 0 ? bearer : most;
    }

    public int none(int mark, int what) {
        if (what != 0 && what != 1) return refuse(OTHER);
        if (mark < 0) return refuse(BELOW);
        if (mark > MARK_MOST) return refuse(ROOM);
        int bits = bearers.fewest(theSet(), mark);
        if (bits == 0) return NONE;
        return what == 0 ? Integer.bitCount(bits) : bits;
    }

    public int year(int world) {
        if (!told.isWorld(world)) return refuse(NOBODY);
        if (told.years >= YEARS_MOST) return refuse(ROOM);
        told.yearsOf[world]++;
        told.years++;
        return told.years;
    }

    public int out() {
        return told.years - told.yearsIn(theSet());
    }

    public int dearYears(int plan) {
        if (!told.isPlan(plan)) return refuse(NOBODY);
        int worlds = theSet();
        if (worlds == 0) return NONE;
        int most = costs.worstOver(plan, worlds);
        int dear = 0;
        for (int world = 0; world < WORLDS; world++) {
            int came = told.yearsOf[world];
            if (came > 0 && costs.of(plan, world) > most) dear += came;
        }
        return dear;
    }

    public int drawn(int n) {
        if (n < 0) return refuse(BELOW);
        if (n > YEARS_MOST) return refuse(ROOM);
        for (int budget = 0; budget <= BUDGET_MOST; budget++) {
            if (told.yearsIn(told.worldsWith(budget)) >= n) return budget;
        }
        return NONE;
    }

    public int image() {
        kept.copy(told);
        hasImage = true;
        return Integer.bitCount(told.there);
    }

    public int restore() {
        if (!hasImage) return refuse(STATE);
        told.copy(kept);
        changes.size = 0;
        costs.forget();
        return Integer.bitCount(told.there);
    }

    public int count(int what) {
        if (what >= 11 && what <= 16) return refusals[what - 10];
        switch (what) {
            case 0: return Integer.bitCount(told.there);
            case 1: return told.laws;
            case 2: return Integer.bitCount(told.holding);
            case 3: return told.rulesTold();
            case 4: return Integer.bitCount(theSet());
            case 5: return told.years;
            case 6: return text.length;
            case 7: return rowLength;
            case 8: return changes.size;
            default: return NONE;
        }
    }

    private int refuse(int number) {
        int kind = -number;
        if (kind >= 1 && kind < refusals.length) refusals[kind]++;
        return number;
    }

    private int change(int slot, int v, int least, int greatest) {
        if (v < least) return refuse(BELOW);
        if (v > greatest) return refuse(ROOM);
        int before = told.numbers[slot];
        changes.note(slot, before);
        told.numbers[slot] = v;
        // No COST hangs on BUDGET, and BUDGET is what is told anew most often.
        if (v != before && slot != BUDGET) costs.forget();
        return before;
    }

    private int theSet() {
        return told.worldsWith(told.numbers[BUDGET]);
    }

    /** The greater of the two BEST COSTS as a HARBOUR's word is known; worlds are some. */
    private int costWithWord(int h, int worlds) {
        int bad = alike(worlds, 1 << h, 1 << h);
        // NONE of a part without worlds is below every cost, so it counts for nothing.
        return Math.max(costs.bestOver(bad), costs.bestOver(worlds & ~bad));
    }

    /** Those of the worlds that are as a world is at the shown harbours. */
    private static int alike(int worlds, int world, int shown) {
        int those = 0;
        for (int w = 0; w < WORLDS; w++) {
            if (((w ^ world) & shown) == 0) those |= 1 << w;
        }
        return worlds & those;
    }

    /** All that THE IMAGE keeps. Sets of harbours, laws and worlds are bits. */
    private static final class Told {
        int there = 0;
        final int[] numbers = new int[SLOTS];
        int laws = 0;
        int holding = 0;
        final int[] lawWorlds = new int[LAWS_MOST];
        final Rule[] rules = {new Rule(), new Rule(), new Rule(), new Rule()};
        int years = 0;
        final int[] yearsOf = new int[WORLDS];

        Told() {
            for (int slot = MOVES; slot < COMMON; slot++) numbers[slot] = MOVE_MOST;
            numbers[CARRIES] = 10;
            numbers[LEFT] = 100;
            numbers[BUDGET] = BUDGET_MOST;
        }

        void copy(Told other) {
            there = other.there;
            System.arraycopy(other.numbers, 0, numbers, 0, SLOTS);
            laws = other.laws;
            holding = other.holding;
            System.arraycopy(other.lawWorlds, 0, lawWorlds, 0, LAWS_MOST);
            for (int h = 0; h < HARBOURS; h++) rules[h].copy(other.rules[h]);
            years = other.years;
            System.arraycopy(other.yearsOf, 0, yearsOf, 0, WORLDS);
        }

        boolean isHarbour(int h) {
            return h >= 0 && h < HARBOURS && (there >> h & 1) == 1;
        }

        boolean isWorld(int world) {
            return world >= 0 && world < WORLDS && (world & ~there) == 0;
        }

        boolean isPlan(int plan) {
            if (plan < 0 || plan >= PLANS) return false;
            for (int h = 0; h < HARBOURS; h++) {
                if ((plan >> 2 * h & 3) > 0 && (there >> h & 1) == 0) return false;
            }
            return true;
        }

        int fare(int plan) {
            int sum = 0;
            for (int h = 0; h < HARBOURS; h++) sum += (plan >> 2 * h & 3) * numbers[h * KINDS + PRICE];
            return sum;
        }

        /** What a harbour has to move; below 0: what it lacks. */
        int balance(int h, int plan, int world) {
            int carried = (plan >> 2 * h & 3) * numbers[CARRIES];
            int more = (world >> h & 1) * numbers[h * KINDS + MORE];
            return carried - numbers[h * KINDS + NEED] - more;
        }

        /** The harbours of which it is seen by a day whether they are bad. */
        int seenBy(int day) {
            int seen = 0;
            for (int h = 0; h < HARBOURS; h++) {
                if (numbers[h * KINDS + DAY] <= day) seen |= 1 << h;
            }
            return seen & there;
        }

        /** THE SET, were this the budget. */
        int worldsWith(int budget) {
            int worlds = 0;
            for (int world = 0; world < WORLDS; world++) {
                if (isWorld(world) && Integer.bitCount(world) <= budget) worlds |= 1 << world;
            }
            for (int law = 0; law < laws; law++) {
                if ((holding >> law & 1) == 1) worlds &= lawWorlds[law];
            }
            return worlds;
        }

        int addLaw(int worlds) {
            if (laws >= LAWS_MOST) return NONE;
            lawWorlds[laws] = worlds;
            holding |= 1 << laws;
            laws++;
            return laws - 1;
        }

        int rulesTold() {
            int many = 0;
            for (int h = 0; h < HARBOURS; h++) {
                if (rules[h].length > 0) many++;
            }
            return many;
        }

        int yearsIn(int worlds) {
            int many = 0;
            for (int world = 0; world < WORLDS; world++) {
                if ((worlds >> world & 1) == 1) many += yearsOf[world];
            }
            return many;
        }
    }

    /** The latest changes in a ring: the oldest gives its place to a new one. */
    private static final class Changes {
        private final int[] slots = new int[CHANGES_MOST];
        private final int[] before = new int[CHANGES_MOST];
        private int next = 0;
        int size = 0;

        void note(int slot, int value) {
            slots[next] = slot;
            before[next] = value;
            next = (next + 1) % CHANGES_MOST;
            if (size < CHANGES_MOST) size++;
        }

        void takeBack(int[] numbers) {
            if (size == 0) return;
            next = (next + CHANGES_MOST - 1) % CHANGES_MOST;
            size--;
            int slot = slots[next];
            if (slot >= 0 && slot < numbers.length) numbers[slot] = before[next];
        }
    }

    /** A text and how far it has been read. With a fault it reads as if it ended there. */
    private static final class Text {
        static final int END = -1;
        final int[] bytes = new int[BYTES_MOST];
        int length = 0;
        int at = 0;
        int fault = -1;

        void append(int n, long packed) {
            for (int i = 0; i < n && length < BYTES_MOST; i++) {
                bytes[length] = (int) (packed >>> 8 * i & 255);
                length++;
            }
        }

        void begin() {
            at = 0;
            fault = -1;
        }

        int peek() {
            return fault < 0 && at >= 0 && at < length && at < BYTES_MOST ? bytes[at] : END;
        }

        boolean take(int sign) {
            if (peek() != sign) return false;
            at++;
            return true;
        }

        boolean atDigit() {
            int sign = peek();
            return sign >= '0' && sign <= '9';
        }

        /** The digit that must stand here. */
        int digit() {
            int sign = peek();
            if (sign < '0' || sign > '9') {
                fail(at);
                return 0;
            }
            at++;
            return sign - '0';
        }

        void fail(int place) {
            if (fault < 0) fault = place;
        }

        /** What is left over can not stand; read, the text has nothing any more. */
        void end() {
            if (at < length) fail(at);
            length = 0;
        }
    }

    /** A law is read once, into the worlds for which it holds: they are all that it speaks of. */
    private static final class Laws {
        private static final int ALL = 0xFFFF;

        /** The worlds of the text, which has none then. */
        static int worldsOf(Text text) {
            text.begin();
            int worlds = readTest(text, 0);
            text.end();
            return worlds;
        }

        private static int readTest(Text text, int depth) {
            int worlds = readTerm(text, depth);
            for (int n = 0; n < BYTES_MOST && text.take('|'); n++) worlds |= readTerm(text, depth);
            return worlds;
        }

        private static int readTerm(Text text, int depth) {
            int worlds = readPart(text, depth);
            for (int n = 0; n < BYTES_MOST && text.take('&'); n++) worlds &= readPart(text, depth);
            return worlds;
        }

        private static int readPart(Text text, int depth) {
            int place = text.at;
            if (text.take('b')) return worldsBad(text.digit());
            if (text.take('n')) return readCount(text);
            boolean not = text.take('!');
            if (!not && !text.take('(') || depth >= DEEPEST) {
                text.fail(place);
                return 0;
            }
            if (not) return ALL & ~readPart(text, depth + 1);
            int worlds = readTest(text, depth + 1);
            if (!text.take(')')) text.fail(text.at);
            return worlds;
        }

        private static int readCount(Text text) {
            int sign = text.peek();
            if (sign != '<' && sign != '=' && sign != '>') {
                text.fail(text.at);
                return 0;
            }
            text.take(sign);
            int many = text.digit();
            int worlds = 0;
            for (int world = 0; world < WORLDS; world++) {
                int bad = Integer.bitCount(world);
                boolean fits = sign == '<' ? bad < many : sign == '>' ? bad > many : bad == many;
                if (fits) worlds |= 1 << world;
            }
            return worlds;
        }

        private static int worldsBad(int h) {
            return h < HARBOURS ? alike(ALL, 1 << h, 1 << h) : 0;
        }
    }

    /** A rule as it was read: a value's parts in the order in which a stack takes them. */
    private static final class Rule {
        static final int FERRIES = 1000;
        static final int SEEN = 1010;
        static final int PLUS = 1020;
        static final int LESS = 1021;
        static final int TIMES = 1022;
        private final int[] parts = new int[BYTES_MOST];
        int length = 0;

        void copy(Rule other) {
            System.arraycopy(other.parts, 0, parts, 0, BYTES_MOST);
            length = other.length;
        }

        /** No part is shorter than a byte of the text, so there is room. */
        void add(int part) {
            if (length >= BYTES_MOST) return;
            parts[length] = part;
            length++;
        }

        int value(int plan, int world, int[] stack) {
            int top = 0;
            for (int n = 0; n < length && n < BYTES_MOST; n++) {
                int part = parts[n];
                if (part < PLUS) {
                    if (top >= stack.length) return 0;
                    stack[top] = valueOf(part, plan, world);
                    top++;
                } else {
                    if (top < 2) return 0;
                    top--;
                    stack[top - 1] = joined(part, stack[top - 1], stack[top]);
                }
            }
            return top > 0 ? stack[top - 1] : 0;
        }

        private static int valueOf(int part, int plan, int world) {
            if (part < FERRIES) return part;
            return part < SEEN ? plan >> 2 * (part - FERRIES) & 3 : world >> part - SEEN & 1;
        }

        private static int joined(int sign, int left, int right) {
            if (sign == TIMES) return left * right;
            return sign == PLUS ? left + right : left - right;
        }
    }

    /** Reads rules, and reckons what is had and left by those that are told. */
    private static final class Rules {
        private final Told told;
        private final Rule latest = new Rule();
        private final int[] stack = new int[BYTES_MOST];
        private int seen = 0;

        Rules(Told told) {
            this.told = told;
        }

        int costOf(int plan, int world) {
            int sum = told.fare(plan);
            for (int h = 0; h < HARBOURS; h++) {
                int had = hadAt(h, plan, world);
                int left = Math.max(0, -told.balance(h, plan, world) - had);
                sum += had * told.numbers[h * KINDS + DEAR] + left * told.numbers[LEFT];
            }
            return sum;
        }

        int worstOver(int plan, int worlds) {
            int most = NONE;
            for (int world = 0; world < WORLDS; world++) {
                if ((worlds >> world & 1) == 1) most = Math.max(most, costOf(plan, world));
            }
            return most;
        }

        int mostLeft(int h, int plan, int worlds) {
            int most = 0;
            for (int world = 0; world < WORLDS; world++) {
                if ((worlds >> world & 1) == 0) continue;
                most = Math.max(most, -told.balance(h, plan, world) - hadAt(h, plan, world));
            }
            return most;
        }

        private int hadAt(int h, int plan, int world) {
            int value = told.rules[h].value(plan, world, stack);
            return Math.max(0, Math.min(value, told.numbers[h * KINDS + LIMIT]));
        }

        /** Reads the text, which has none then; it may ask only of the seen harbours whether they are bad. */
        void read(Text text, int seenOnes) {
            seen = seenOnes;
            latest.length = 0;
            text.begin();
            readSum(text, 0);
            text.end();
        }

        /** The rule that was read last becomes that of a harbour. */
        void keep(int h) {
            told.rules[h].copy(latest);
        }

        private void readSum(Text text, int depth) {
            readProduct(text, depth);
            for (int n = 0; n < BYTES_MOST; n++) {
                int sign = text.peek();
                if (!text.take('+') && !text.take('-')) break;
                readProduct(text, depth);
                latest.add(sign == '+' ? Rule.PLUS : Rule.LESS);
            }
        }

        private void readProduct(Text text, int depth) {
            readUnit(text, depth);
            for (int n = 0; n < BYTES_MOST && text.take('*'); n++) {
                readUnit(text, depth);
                latest.add(Rule.TIMES);
            }
        }

        private void readUnit(Text text, int depth) {
            int place = text.at;
            if (text.atDigit()) {
                readNumber(text);
            } else if (text.take('x')) {
                int h = text.digit();
                latest.add(h < HARBOURS ? Rule.FERRIES + h : 0);
            } else if (text.take('s')) {
                readSeen(text);
            } else if (text.take('(') && depth < DEEPEST) {
                readSum(text, depth + 1);
                if (!text.take(')')) text.fail(text.at);
            } else {
                text.fail(place);
            }
        }

        private void readSeen(Text text) {
            int place = text.at;
            int h = text.digit();
            if (h >= HARBOURS || (seen >> h & 1) == 0) text.fail(place);
            latest.add(Rule.SEEN + h);
        }

        private void readNumber(Text text) {
            int number = 0;
            for (int n = 0; n < DIGITS_MOST && text.atDigit(); n++) number = number * 10 + text.digit();
            latest.add(number);
        }
    }

    /** COST by plan and world, reckoned when it is first asked for and kept until a number changes. */
    private static final class Costs {
        private static final int UNKNOWN = -1;
        final Told told;
        private final Crossing crossing;
        private final int[] known = new int[PLANS * WORLDS];
        private boolean stale = true;
        int bestPlan = NONE;

        Costs(Told told) {
            this.told = told;
            this.crossing = new Crossing(told);
        }

        void forget() {
            stale = true;
        }

        int of(int plan, int world) {
            if (plan < 0 || plan >= PLANS || world < 0 || world >= WORLDS) return NONE;
            int at = plan * WORLDS + world;
            if (stale) {
                Arrays.fill(known, UNKNOWN);
                stale = false;
            }
            if (known[at] == UNKNOWN) {
                crossing.weigh(plan, world);
                known[at] = told.fare(plan) + crossing.leastLater();
            }
            return known[at];
        }

        /** The least of the worlds in which a plan costs most. */
        int worstWorld(int plan, int worlds) {
            int worst = NONE;
            int most = NONE;
            for (int world = 0; world < WORLDS; world++) {
                if ((worlds >> world & 1) == 0) continue;
                int one = of(plan, world);
                if (one > most) {
                    worst = world;
                    most = one;
                }
            }
            return worst;
        }

        int worstOver(int plan, int worlds) {
            return of(plan, worstWorld(plan, worlds));
        }

        /** The least worst over the worlds; the least plan that has it is bestPlan then. */
        int bestOver(int worlds) {
            bestPlan = NONE;
            int least = NONE;
            int hard = NONE;
            for (int plan = 0; plan < PLANS && worlds != 0; plan++) {
                if (!told.isPlan(plan)) continue;
                // The world that is worst for the best so far mostly shows at once that a plan is no better.
                if (bestPlan != NONE && (told.fare(plan) >= least || of(plan, hard) >= least)) continue;
                int world = worstWorld(plan, worlds);
                int most = of(plan, world);
                if (bestPlan == NONE || most < least) {
                    bestPlan = plan;
                    least = most;
                    hard = world;
                }
            }
            return least;
        }
    }

    /**
     * LATER: harbours that lack are served one after the other, each unit in the cheapest way that is open. Such a way
     * may take units that were sent to a harbour served before, which then goes its own next way instead. That is as
     * far as it need go: three of four harbours lack only where one gives, and two givers serve only two.
     */
    private static final class Crossing {
        private static final int HIRE = -1;
        private static final int LEAVE = -2;
        private final Told told;
        private int givers = 0;
        private final int[] giver = new int[HARBOURS];
        private final int[] spare = new int[HARBOURS];
        private int takers = 0;
        private final int[] taker = new int[HARBOURS];
        private final int[] lack = new int[HARBOURS];
        private final int[] hirable = new int[HARBOURS];
        private final int[] fares = new int[HARBOURS * HARBOURS];
        private final int[] sent = new int[HARBOURS * HARBOURS];
        private final int[] price = new int[HARBOURS];
        private final int[] way = new int[HARBOURS];

        Crossing(Told told) {
            this.told = told;
        }

        void weigh(int plan, int world) {
            givers = 0;
            takers = 0;
            Arrays.fill(sent, 0);
            for (int h = 0; h < HARBOURS; h++) {
                int balance = told.balance(h, plan, world);
                if (balance > 0) {
                    giver[givers] = h;
                    spare[givers] = balance;
                    givers++;
                } else if (balance < 0) {
                    taker[takers] = h;
                    lack[takers] = -balance;
                    hirable[takers] = told.numbers[h * KINDS + LIMIT];
                    takers++;
                }
            }
            for (int g = 0; g < givers; g++) {
                for (int t = 0; t < takers; t++) {
                    fares[g * HARBOURS + t] = told.numbers[MOVES + giver[g] * HARBOURS + taker[t]];
                }
            }
        }

        /** Of what was weighed last. */
        int leastLater() {
            int sum = 0;
            for (int t = 0; t < takers; t++) {
                // Every turn serves a unit at least.
                for (int turn = 0; turn < LACK_MOST && lack[t] > 0; turn++) {
                    for (int other = 0; other <= t; other++) findOwnWay(other);
                    sum += serve(t);
                }
            }
            return sum;
        }

        private void findOwnWay(int t) {
            price[t] = told.numbers[LEFT];
            way[t] = LEAVE;
            int dear = told.numbers[taker[t] * KINDS + DEAR];
            if (hirable[t] > 0 && dear < price[t]) {
                price[t] = dear;
                way[t] = HIRE;
            }
            for (int g = 0; g < givers; g++) {
                int fare = fares[g * HARBOURS + t];
                if (spare[g] > 0 && fare < price[t]) {
                    price[t] = fare;
                    way[t] = g;
                }
            }
        }

        /** Serves units in the way that is cheapest now: what they cost. */
        private int serve(int t) {
            int least = price[t];
            int other = t;
            int from = 0;
            for (int g = 0; g < givers; g++) {
                for (int k = 0; k < t; k++) {
                    int shared = price[k] - fares[g * HARBOURS + k] + fares[g * HARBOURS + t];
                    if (sent[g * HARBOURS + k] > 0 && shared < least) {
                        least = shared;
                        other = k;
                        from = g;
                    }
                }
            }
            int units = Math.min(lack[t], roomOf(other));
            if (other != t) {
                units = Math.min(units, sent[from * HARBOURS + other]);
                sent[from * HARBOURS + other] -= units;
                sent[from * HARBOURS + t] += units;
            }
            goOwnWay(other, units);
            lack[t] -= units;
            return units * least;
        }

        /** How many units a taker's own way has room for. */
        private int roomOf(int t) {
            int g = way[t];
            if (g == HIRE) return hirable[t];
            return g >= 0 && g < givers ? spare[g] : LACK_MOST;
        }

        private void goOwnWay(int t, int units) {
            int g = way[t];
            if (g == HIRE) {
                hirable[t] -= units;
            } else if (g >= 0 && g < givers) {
                spare[g] -= units;
                sent[g * HARBOURS + t] += units;
            }
        }
    }

    /** CLOSING from both sides: worlds are borne one by one until the least worst is proved. */
    private static final class Closing {
        private final Costs costs;
        private int under = 0;
        private int over = 0;
        private int plan = 0;
        private int rounds = 0;
        private int borne = 0;
        private boolean proved = false;

        Closing(Costs costs) {
            this.costs = costs;
        }

        void run(int most, int worlds) {
            borne = worlds & -worlds;
            proved = false;
            rounds = 0;
            for (int n = 0; n < most && !proved; n++) {
                under = costs.bestOver(borne);
                int tried = costs.bestPlan;
                int world = costs.worstWorld(tried, worlds);
                int worst = costs.of(tried, world);
                if (n == 0 || worst < over) {
                    over = worst;
                    plan = tried;
                }
                rounds++;
                proved = over == under;
                if (!proved) borne |= 1 << world;
            }
        }

        int answer(int what) {
            switch (what) {
                case 0: return under;
                case 1: return over;
                case 2: return plan;
                case 3: return rounds;
                case 4: return Integer.bitCount(borne);
                default: return proved ? 1 : 0;
            }
        }
    }

    /** A PROOF of LATER: u, v, w by harbours in one row. */
    private static final class Proof {
        /** What fails first, or -1. */
        static int failureOf(int[] row, Told told, int plan, int world) {
            for (int place = 0; place < row.length; place++) {
                if (row[place] < 0 || row[place] > FACTOR_MOST) return place;
            }
            for (int j = 0; j < HARBOURS; j++) {
                if (told.balance(j, plan, world) >= 0) continue;
                int failure = failureAt(j, row, told, plan, world);
                if (failure >= 0) return failure;
            }
            return -1;
        }

        private static int failureAt(int j, int[] row, Told told, int plan, int world) {
            if (row.length < ROW) return -1;
            int u = row[j];
            for (int i = 0; i < HARBOURS; i++) {
                int fare = told.numbers[MOVES + i * HARBOURS + j];
                if (told.balance(i, plan, world) > 0 && u > row[HARBOURS + i] + fare) return 100 + 10 * i + j;
            }
            if (u > row[2 * HARBOURS + j] + told.numbers[j * KINDS + DEAR]) return 200 + j;
            return u > told.numbers[LEFT] ? 300 + j : -1;
        }

        static int worthOf(int[] row, Told told, int plan, int world) {
            if (row.length < ROW) return 0;
            int sum = 0;
            for (int h = 0; h < HARBOURS; h++) {
                int balance = told.balance(h, plan, world);
                if (balance > 0) sum -= row[HARBOURS + h] * balance;
                if (balance < 0) sum -= row[h] * balance + row[2 * HARBOURS + h] * told.numbers[h * KINDS + LIMIT];
            }
            return Math.max(0, sum);
        }
    }

    /** NONE: which plans bear each world under a mark, as bits, and the fewest worlds that share no such plan. */
    private static final class Bearers {
        private static final int WORDS = PLANS / 64;
        private final Costs costs;
        private final long[] bears = new long[WORLDS * WORDS];

        Bearers(Costs costs) {
            this.costs = costs;
        }

        /** The fewest worlds as bits, of several the least number; 0 if there are none so few. */
        int fewest(int worlds, int mark) {
            if (worlds == 0 || costs.bestOver(worlds) <= mark) return 0;
            find(worlds, mark);
            for (int size = 1; size <= FEWEST_MOST; size++) {
                int bits = leastOf(size, worlds);
                if (bits != 0) return bits;
            }
            return 0;
        }

        private void find(int worlds, int mark) {
            Arrays.fill(bears, 0L);
            for (int plan = 0; plan < PLANS; plan++) {
                if (!costs.told.isPlan(plan) || costs.told.fare(plan) > mark) continue;
                for (int world = 0; world < WORLDS; world++) {
                    if ((worlds >> world & 1) == 1 && costs.of(plan, world) <= mark) {
                        bears[world * WORDS + plan / 64] |= 1L << plan % 64;
                    }
                }
            }
        }

        /** The loops go up by the number that the bits make; worlds that are the same make smaller sets. */
        private int leastOf(int size, int worlds) {
            for (int high = 0; high < WORLDS; high++) {
                for (int mid = 0; mid <= high; mid++) {
                    for (int low = 0; low <= mid; low++) {
                        int bits = 1 << high | 1 << mid | 1 << low;
                        if (Integer.bitCount(bits) != size || (bits & ~worlds) != 0) continue;
                        if (isBorneByNone(high, mid, low)) return bits;
                    }
                }
            }
            return 0;
        }

        private boolean isBorneByNone(int high, int mid, int low) {
            for (int i = 0; i < WORDS; i++) {
                if ((bears[high * WORDS + i] & bears[mid * WORDS + i] & bears[low * WORDS + i]) != 0) return false;
            }
            return true;
        }
    }
}
