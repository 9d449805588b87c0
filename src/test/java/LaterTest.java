import java.util.Random;

/** LATER against every way that there is, with few units; and no PROOF that holds is worth more than LATER. */
final class LaterTest {
    private static final Checks CHECKS = new Checks("LaterTest");
    private static final int ROUNDS = 60;
    private static final int PLANS_A_ROUND = 40;

    private final Random random;
    private final FerryPlans x = new FerryPlans();
    private final int[] need = new int[4];
    private final int[] more = new int[4];
    private final int[] dear = new int[4];
    private final int[] limit = new int[4];
    private final int[][] move = new int[4][4];
    private int carries;
    private int left;

    private LaterTest(int seed) {
        random = new Random(seed);
    }

    public static void main(String[] args) {
        for (int round = 0; round < ROUNDS; round++) {
            LaterTest test = new LaterTest(round);
            test.build();
            for (int i = 0; i < PLANS_A_ROUND; i++) test.ask();
        }
        CHECKS.end();
    }

    private void build() {
        for (int h = 0; h < 4; h++) {
            x.harbour(h);
            x.tell(h, 0, need[h] = random.nextInt(4));
            x.tell(h, 1, more[h] = random.nextInt(4));
            x.tell(h, 3, dear[h] = random.nextInt(8));
            x.tell(h, 4, limit[h] = random.nextInt(3));
        }
        for (int i = 0; i < 4; i++) {
            for (int j = 0; j < 4; j++) if (i != j) x.move(i, j, move[i][j] = random.nextInt(10));
        }
        x.set(0, carries = 1 + random.nextInt(3));
        x.set(1, left = random.nextInt(12));
    }

    private void ask() {
        int plan = random.nextInt(256);
        int world = random.nextInt(16);
        int[] rest = new int[4];
        for (int h = 0; h < 4; h++) {
            rest[h] = (plan >> 2 * h & 3) * carries - need[h] - (world >> h & 1) * more[h];
        }
        int later = x.later(plan, world);
        CHECKS.due("later(" + plan + ", " + world + ")", later, everyWay(rest, limit.clone(), 0));
        for (int i = 0; i < 12; i++) x.put(random.nextInt(i < 4 ? left + 1 : 8));
        int worth = x.prove(plan, world);
        CHECKS.that("WORTH " + worth + " is not above LATER " + later, worth <= later);
    }

    /** The first harbour that lacks gets one unit in each way that is open, and so on. */
    private int everyWay(int[] rest, int[] hirable, int from) {
        int j = from;
        while (j < 4 && rest[j] >= 0) j++;
        if (j == 4) return 0;
        rest[j]++;
        int least = left + everyWay(rest, hirable, j);
        if (hirable[j] > 0) {
            hirable[j]--;
            least = Math.min(least, dear[j] + everyWay(rest, hirable, j));
            hirable[j]++;
        }
        for (int i = 0; i < 4; i++) {
            if (i == j || rest[i] <= 0) continue;
            rest[i]--;
            least = Math.min(least, move[i][j] + everyWay(rest, hirable, j));
            rest[i]++;
        }
        rest[j]--;
        return least;
    }
}
