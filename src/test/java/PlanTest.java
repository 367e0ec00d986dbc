import java.util.Random;

/** Plans and towers that would leave the blocks as they lie, in yards of up to six blocks, against the model. */
public final class PlanTest {
    private static final int RUNS = Integer.getInteger("runs", 250);
    private static final int FIRST = Integer.getInteger("first", 1);
    private static final int WIDEST = Integer.getInteger("widest", 3);
    private static int wrong = 0;

    private PlanTest() {
    }

    public static void main(String[] args) {
        int[] found = new int[7];
        for (int seed = FIRST; seed < FIRST + RUNS && wrong == 0; seed++) {
            run(new Random(seed), seed, found);
        }
        System.out.println("plans of 0 .. 5 carries, none: " + java.util.Arrays.toString(found));
        System.exit(wrong == 0 ? 0 : 1);
    }

    private static void due(String call, long got, long want) {
        if (got != want) {
            wrong++;
            System.out.println(call + " answered " + got + ", due is " + want);
        }
    }

    private static void run(Random random, int seed, int[] found) {
        DuskTower x = new DuskTower();
        Model m = new Model();
        int w = 2 + random.nextInt(WIDEST - 1);
        x.columns(w);
        m.columns(w);
        int yard = 3 + random.nextInt(4);
        int standing = random.nextInt(7);
        int strongest = 5 + random.nextInt(random.nextBoolean() ? 40 : 300);
        for (int i = 0; i < yard + standing; i++) {
            if (i - m.look(2) >= 6) {
                break;
            }
            int length = 1 + random.nextInt(Math.min(3, w));
            int weight = 1 + random.nextInt(9);
            int strength = random.nextInt(strongest);
            int kind = random.nextInt(3) == 0 ? random.nextInt(8) : 0;
            int place = 8 + random.nextInt(12);
            x.block(length, weight, strength, kind, place);
            m.block(length, weight, strength, kind, place);
            for (int turn = 0; turn < 4 && m.look(2) < standing; turn++) {
                int b = random.nextInt(i + 1);
                int c = random.nextInt(w);
                due(seed + ": put", x.put(b, c), m.put(b, c));
            }
        }
        for (int more = 0; more <= 4; more++) {
            int height = m.height(-1) + more;
            int n = m.plan(height, 0);
            found[n == -1 ? 6 : n]++;
            for (int what : new int[] {0, 1, 10, 20, 11, 21, 12, 22, 13, 23, 14, 24}) {
                if (what == 0 || what == 1 && n >= 0 || what >= 10 && what % 10 < n) {
                    due(seed + ": plan(" + height + ", " + what + ")", x.plan(height, what), m.plan(height, what));
                }
            }
            if (n == -1) {
                break;
            }
        }
        towers(x, m, random, seed);
    }

    private static void towers(DuskTower x, Model m, Random random, int seed) {
        x.dusk();
        m.dusk();
        int count = m.look(1);
        for (int turn = 0; turn < 5; turn++) {
            int set = random.nextInt(1 << count);
            while (Integer.bitCount(set) > 6) {
                set &= set - 1;
            }
            for (int what = 0; what < 50; what += what == 0 ? 10 : 1) {
                due(seed + ": which(" + set + ", " + what + ")", x.which(set, what), m.which(set, what));
            }
        }
    }
}
