/** The sentences on columns, blocks and carries that name a boundary case, one by one: promises 1 to 8 and 16. */
public final class BuildEdgesTest extends Check {
    private static final int[] WILD = {Integer.MIN_VALUE, Integer.MIN_VALUE + 1, -100, -2, Integer.MAX_VALUE - 1,
        Integer.MAX_VALUE};

    private BuildEdgesTest() {
    }

    public static void main(String[] args) {
        newObject();
        widths();
        toldAnew();
        toldAnewBut();
        blockRanges();
        twentyBlocks();
        wearOfKinds();
        levels();
        heights();
        standing();
        shares();
        bearing();
        cannotBe();
        notStanding();
        tooMuch();
        nothingDone();
        takes();
        carries();
        costs();
        refusedAsked();
        ofAsked();
        heightAsked();
        downAsked();
        finish("each edge of building holds");
    }

    private static void newObject() {
        says("No blocks; five columns.");
        DuskTower x = new DuskTower();
        dueLooks(x, 5, 0, 0, 0, 0, 0, 0, 0, 0, 0, 0);
        due(NONE - 1, x.of(0, 0));
        says("5 at first");
        due(0, x.height(4));
        due(NONE - 1, x.height(5));
        says("`NONE = -1`: None.".replace("`", ""));
        due(-1, DuskTower.NONE);
    }

    private static void widths() {
        says("W 2 .. 8");
        DuskTower x = new DuskTower();
        for (int w : new int[] {-1, 0, 1, 9, 10}) {
            due(false, x.columns(w));
            due(5, x.look(0));
        }
        for (int w : WILD) {
            due(false, x.columns(w));
        }
        for (int w = 2; w <= 8; w++) {
            due(true, x.columns(w));
            due(w, x.look(0));
            due(0, x.height(w - 1));
            due(NONE - 1, x.height(w));
        }
        says("W is told: true; false, and nothing is done, if it can't be.");
        x = withPlain(3);
        x.hand(50);
        x.pay(1, 7);
        vow(x, "dusk 1=2;");
        x.put(0, 0);
        x.noon();
        x.put(1, 0);
        String was = sight(x);
        due(false, x.columns(1));
        dueSame(was, x);
        due(false, x.columns(9));
        dueSame(was, x);
        due(true, x.undo());
    }

    private static void toldAnew() {
        says("told anew: all is as at first but W, the TAPE, fault(), refused() and THE IMAGE");
        DuskTower x = withPlain(3);
        x.columns(4);
        String first = sight(x);
        x.block(1, 60, 9, 0, 10);
        plain(x, 3);
        x.hand(40);
        x.hand(40);
        x.quarrel(0, 1, true);
        x.pay(3, 7);
        x.wind(2, 3, 4);
        vow(x, "noon 1=2;");
        x.dusk();
        x.put(0, 3);
        x.noon();
        x.put(1, 0);
        dueLooks(x, 4, 2, 2, 1, 2, 3, 1, 1, 2, 1, 1);
        due(true, x.columns(4));
        dueSame(first, x);
        due(NONE, x.noon());
        // hands that come anew have no quarrel, blocks begin with 0
        due(0, x.block(1, 60, 9, 0, 10));
        due(0, x.hand(40));
        due(1, x.hand(40));
        due(3, x.of(0, 9));
        due(0, x.put(0, 3));
    }

    private static void toldAnewBut() {
        says("told anew: all is as at first but W, the TAPE, fault(), refused() and THE IMAGE");
        DuskTower x = withPlain(2);
        x.block(1, 9, 9, 0, 10);
        x.block(1, 9, 5, 0, 10);
        x.put(3, 0);
        x.image(true);
        due(NONE, vow(x, "noon 7/0=1;"));
        due(NONE, x.put(2, 0));
        fill(x, "dusk 1=2;");
        due(true, x.columns(7));
        due(7, x.look(0));
        due(2, x.fault(0));
        due(7, x.fault(1));
        due(3, x.refused(0));
        due(3, x.refused(1));
        due(false, x.end(10));
        due(1, x.text());
        due(true, x.image(false));
        due(5, x.look(0));
        due(4, x.look(1));
        due(0, x.of(3, 5));
    }

    private static void blockRanges() {
        says("a LENGTH 1 .. 3 (not above W)");
        dueBlock(new int[] {1, 2, 3}, new int[] {-1, 0, 4, 5}, 0);
        DuskTower x = new DuskTower();
        x.columns(2);
        due(NONE, plain(x, 3));
        due(0, plain(x, 2));
        x.columns(3);
        due(0, plain(x, 3));
        says("a WEIGHT 1 .. 99");
        dueBlock(new int[] {1, 2, 98, 99}, new int[] {-1, 0, 100, 101}, 1);
        says("a STRENGTH 0 .. 999");
        dueBlock(new int[] {0, 1, 998, 999}, new int[] {-1, 1000, 1001}, 2);
        says("a KIND 0 .. 7 (1 HOLLOW, 2 CRACKED, 4 HOLY, added)");
        dueBlock(new int[] {0, 1, 2, 3, 4, 5, 6, 7}, new int[] {-1, 8, 9, 16}, 3);
        says("a PLACE 0 .. 59 of THE YARD where it lies");
        dueBlock(new int[] {0, 1, 58, 59}, new int[] {-1, 60, 61}, 4);
    }

    /** One of the five numbers of a block goes through these; the others can be. */
    private static void dueBlock(int[] good, int[] bad, int which) {
        DuskTower x = new DuskTower();
        int count = 0;
        for (int v : good) {
            due(count, blockWith(x, which, v));
            due(v, x.of(count, which));
            count++;
        }
        for (int v : bad) {
            due(NONE, blockWith(x, which, v));
        }
        for (int v : WILD) {
            due(NONE, blockWith(x, which, v));
        }
        due(count, x.look(1));
        due(count, blockWith(x, which, good[0]));
    }

    private static int blockWith(DuskTower x, int which, int v) {
        int[] n = {1, 1, 1, 0, 10};
        n[which] = v;
        return x.block(n[0], n[1], n[2], n[3], n[4]);
    }

    private static void twentyBlocks() {
        says("A BLOCK: its number; NONE if one can't be, or there are twenty.");
        DuskTower x = withPlain(20);
        due(NONE, plain(x, 1));
        due(20, x.look(1));
        due(0, x.put(19, 0));
        due(NONE - 1, x.of(20, 0));
        // one that is in the tower counts, too, and so it is behind a dusk
        due(NONE, plain(x, 1));
        due(1, x.look(9));
        x.dusk();
        due(NONE, plain(x, 1));
        says("(any number at one)");
        for (int i = 0; i < 20; i++) {
            due(10, x.of(i, 4));
        }
    }

    private static void wearOfKinds() {
        says("Quotients go downwards.");
        due(0, bears(1, 1));
        due(1, bears(3, 1));
        due(499, bears(999, 1));
        due(0, bears(2, 2));
        due(1, bears(5, 2));
        due(0, bears(5, 3));
        due(1, bears(11, 3));
        due(2, bears(12, 3));
        says("HOLLOW half of that; CRACKED a third (of that half, if both); HOLY nothing");
        due(999, bears(999, 0));
        due(50, bears(100, 1));
        due(33, bears(100, 2));
        due(16, bears(100, 3));
        for (int kind = 4; kind <= 7; kind++) {
            due(0, bears(999, kind));
        }
        due(0, bears(0, 0));
        due(0, bears(0, 3));
    }

    private static int bears(int strength, int kind) {
        DuskTower x = new DuskTower();
        due(0, x.block(1, 1, strength, kind, 10));
        return x.of(0, 8);
    }

    private static void levels() {
        says("that above the highest BLOCK of any of these (0, if they are empty)");
        DuskTower x = withPlain(4);
        plain(x, 3);
        plain(x, 2);
        due(0, x.put(4, 2));
        due(1, x.put(0, 3));
        due(0, x.put(1, 1));
        due(2, x.put(2, 3));
        due(0, x.put(5, 0) == NONE ? x.put(3, 0) : NONE);
        due(1, x.put(5, 0));
        due(true, x.take(5, 10));
        due(true, x.take(2, 10));
        due(true, x.take(0, 10));
        // all above is gone: as low as at first
        due(1, x.put(0, 3));
    }

    private static void heights() {
        says("how many LEVELS are at or below its highest BLOCK; of THE TOWER: the greatest one");
        DuskTower x = withPlain(2);
        plain(x, 3);
        x.put(0, 2);
        x.put(1, 2);
        due(2, x.put(2, 1));
        // columns 1 and 3 have nothing below
        due(0, x.height(0));
        due(3, x.height(1));
        due(3, x.height(2));
        due(3, x.height(3));
        due(0, x.height(4));
        due(3, x.height(NONE));
        x.take(2, 10);
        due(0, x.height(1));
        due(2, x.height(2));
        due(0, x.height(3));
        due(2, x.height(NONE));
        // twenty levels
        DuskTower y = withPlain(20);
        for (int i = 0; i < 20; i++) {
            due(i, y.put(i, 4));
        }
        due(20, y.height(4));
        due(20, y.height(NONE));
        due(19, y.of(0, 7));
    }

    private static void standing() {
        says("It is BORNE by those of its columns in which a BLOCK ends just below it (LEVEL 0: all).");
        for (int length = 1; length <= 3; length++) {
            due(0, onPillars(length, 0));
        }
        says("with LENGTH 1 its column, with LENGTH 2 both, with LENGTH 3 the middle one or both outer ones bear it");
        // pillars as a set: 1 the left column, 2 the next one, 4 the third
        due(1, onPillars(1, 1));
        due(NONE, onPillars(2, 1));
        due(NONE, onPillars(2, 2));
        due(1, onPillars(2, 3));
        int[] ofThree = {0, NONE, 1, 1, NONE, 1, 1, 1};
        for (int set = 0; set < 8; set++) {
            due(ofThree[set], onPillars(3, set));
        }
    }

    /** The level to which a block comes at column 1 with pillars one high at columns 1, 2 and 3. */
    private static int onPillars(int length, int set) {
        DuskTower x = withPlain(3);
        plain(x, length);
        for (int i = 0; i < 3; i++) {
            if ((set & 1 << i) != 0) {
                due(0, x.put(i, 1 + i));
            }
        }
        int level = x.put(3, 1);
        due(level == NONE ? 2 : 0, x.refused(0));
        return level;
    }

    private static void shares() {
        says("alike parts, what is left one by one from the left");
        dueShares(3, 7, 1, 1, 0, 0);
        dueShares(3, 7, 2, 1, 1, 0);
        dueShares(3, 7, 3, 1, 1, 1);
        dueShares(3, 7, 4, 2, 1, 1);
        dueShares(3, 7, 98, 33, 33, 32);
        dueShares(3, 5, 7, 4, 0, 3);
        dueShares(3, 5, 8, 4, 0, 4);
        dueShares(3, 3, 7, 4, 3, 0);
        dueShares(3, 6, 7, 0, 4, 3);
        dueShares(3, 2, 7, 0, 7, 0);
        dueShares(2, 3, 1, 1, 0, 0);
        dueShares(2, 3, 99, 50, 49, 0);
        dueShares(1, 1, 99, 99, 0, 0);
        says("each BLOCK gives its WEIGHT and LOAD together to the columns that bear it");
        // 3 (with 4 on it) rests with two columns on block 0, with one on block 1: 7 in parts of 3, 2, 2
        DuskTower x = new DuskTower();
        plain(x, 2);
        plain(x, 1);
        x.block(3, 3, 999, 0, 10);
        x.block(1, 4, 999, 0, 10);
        x.put(0, 0);
        x.put(1, 2);
        x.put(2, 0);
        due(2, x.put(3, 2));
        due(4, x.of(2, 7));
        due(5, x.of(0, 7));
        due(2, x.of(1, 7));
        due(0, x.of(3, 7));
        says("7 LOAD (0 in THE YARD)");
        x.take(3, 10);
        x.take(2, 10);
        due(0, x.of(2, 7));
        due(0, x.of(0, 7));
    }

    private static void dueShares(int length, int pillars, int weight, int left, int middle, int right) {
        DuskTower x = withPlain(3);
        x.block(length, weight, 999, 0, 10);
        int[] want = {left, middle, right};
        for (int i = 0; i < 3; i++) {
            if ((pillars & 1 << i) != 0) {
                x.put(i, 1 + i);
            }
        }
        x.put(3, 1);
        due(1, x.of(3, 6));
        for (int i = 0; i < 3; i++) {
            due(want[i], x.of(i, 7));
        }
    }

    private static void bearing() {
        says("It BEARS up to STRENGTH");
        due(1, onOne(10, 0, 10));
        due(NONE, onOne(10, 0, 11));
        due(1, onOne(10, 1, 5));
        due(NONE, onOne(10, 1, 6));
        due(1, onOne(10, 2, 3));
        due(NONE, onOne(10, 2, 4));
        due(1, onOne(10, 3, 1));
        due(NONE, onOne(10, 3, 2));
        due(NONE, onOne(999, 4, 1));
        due(NONE, onOne(999, 7, 1));
        due(NONE, onOne(0, 0, 1));
        due(1, onOne(1, 0, 1));
    }

    /** The level of a block of this weight on one of this strength and kind. */
    private static int onOne(int strength, int kind, int weight) {
        DuskTower x = new DuskTower();
        x.block(1, 1, strength, kind, 10);
        x.block(1, weight, 0, 0, 10);
        due(0, x.put(0, 0));
        int level = x.put(1, 0);
        due(level == NONE ? 3 : 0, x.refused(0));
        due(level == NONE ? 0 : NONE, x.refused(1));
        return level;
    }

    private static void cannotBe() {
        says("1 it can't be (no such one, not in THE YARD, not in THE TOWER or something lies on it,"
                + " a column by which it would reach beyond)");
        DuskTower x = withPlain(2);
        plain(x, 2);
        plain(x, 3);
        for (int bad : new int[] {-1, 4, 5, 20, Integer.MIN_VALUE, Integer.MAX_VALUE}) {
            duePutRefused(x, bad, 0);
            dueTakeRefused(x, bad, 10);
        }
        for (int bad : new int[] {-1, 5, 6, Integer.MIN_VALUE, Integer.MAX_VALUE, Integer.MAX_VALUE - 1}) {
            duePutRefused(x, 0, bad);
            duePutRefused(x, 2, bad);
            duePutRefused(x, 3, bad);
        }
        duePutRefused(x, 2, 4);
        duePutRefused(x, 3, 3);
        duePutRefused(x, 3, 4);
        dueTakeRefused(x, 0, 10);
        due(0, x.put(0, 4));
        duePutRefused(x, 0, 4);
        duePutRefused(x, 0, 3);
        due(0, x.put(2, 2));
        due(1, x.put(3, 2));
        dueTakeRefused(x, 0, 10);
        dueTakeRefused(x, 2, 10);
        // a place that can't be
        for (int bad : new int[] {-1, 60, 61, Integer.MIN_VALUE, Integer.MAX_VALUE}) {
            dueTakeRefused(x, 3, bad);
        }
        due(true, x.take(3, 59));
        due(true, x.take(2, 0));
        due(59, x.of(3, 4));
        due(0, x.of(2, 4));
        dueTakeRefused(x, 3, 59);
    }

    private static void duePutRefused(DuskTower x, int block, int column) {
        x.refused(0);
        due(NONE, x.put(block, column));
        due(1, x.refused(0));
        due(NONE, x.refused(1));
    }

    private static void dueTakeRefused(DuskTower x, int block, int place) {
        due(false, x.take(block, place));
        due(1, x.refused(0));
        due(NONE, x.refused(1));
    }

    private static void notStanding() {
        says("2 it would not STAND");
        DuskTower x = new DuskTower();
        x.block(1, 1, 0, 0, 10);
        x.block(2, 9, 0, 0, 10);
        x.put(0, 0);
        // and block 0 would have too much, which comes behind
        due(NONE, x.put(1, 0));
        due(2, x.refused(0));
        due(NONE, x.refused(1));
        // also behind a carry of which a block with too much was told
        x.block(1, 1, 0, 0, 10);
        due(NONE, x.put(2, 0));
        due(0, x.refused(1));
        due(NONE, x.put(1, 0));
        due(2, x.refused(0));
        due(NONE, x.refused(1));
        // what can't be comes ahead
        due(NONE, x.put(1, 4));
        due(1, x.refused(0));
    }

    private static void tooMuch() {
        says("3 some BLOCK would have more LOAD than it BEARS (told: that at the greatest LEVEL, of several the least"
                + " number)");
        DuskTower x = new DuskTower();
        x.block(1, 1, 2, 0, 10);
        x.block(1, 1, 1, 0, 10);
        x.block(1, 2, 0, 0, 10);
        x.put(0, 0);
        x.put(1, 0);
        due(NONE, x.put(2, 0));
        due(3, x.refused(0));
        due(1, x.refused(1));
        // the lower one alone
        DuskTower y = new DuskTower();
        y.block(1, 1, 2, 0, 10);
        y.block(1, 1, 9, 0, 10);
        y.block(1, 2, 0, 0, 10);
        y.put(0, 0);
        y.put(1, 0);
        due(NONE, y.put(2, 0));
        due(0, y.refused(1));
        // two at one level, the greater number on the left; block 3 at a lower level has too much, too
        DuskTower z = new DuskTower();
        z.block(2, 9, 9, 0, 10);
        z.block(1, 1, 4, 0, 10);
        z.block(1, 1, 4, 0, 10);
        z.block(2, 1, 2, 0, 10);
        z.put(3, 0);
        z.put(2, 0);
        z.put(1, 1);
        due(NONE, z.put(0, 0));
        due(3, z.refused(0));
        due(2, z.refused(1));
        z = new DuskTower();
        z.block(2, 10, 9, 0, 10);
        z.block(1, 1, 4, 0, 10);
        z.block(1, 1, 4, 0, 10);
        z.put(2, 0);
        z.put(1, 1);
        due(NONE, z.put(0, 0));
        due(1, z.refused(1));
    }

    private static void nothingDone() {
        says("REFUSED (nothing is done)");
        DuskTower x = new DuskTower();
        x.block(1, 1, 3, 0, 17);
        x.block(2, 2, 9, 0, 12);
        x.block(1, 4, 9, 0, 12);
        x.put(0, 0);
        String was = sight(x);
        due(NONE, x.put(0, 1));
        dueSame(was, x);
        due(NONE, x.put(1, 0));
        dueSame(was, x);
        due(NONE, x.put(2, 0));
        dueSame(was, x);
        due(false, x.take(2, 5));
        dueSame(was, x);
        says("REFUSED (nothing is done)");
        // those that can be undone stay, and the room of what was refused is free
        due(true, x.undo());
        due(17, x.of(0, 4));
        due(0, x.put(2, 0));
    }

    private static void takes() {
        says("takes one on which nothing lies (in none of its columns is a BLOCK higher)");
        DuskTower x = withPlain(3);
        plain(x, 3);
        plain(x, 2);
        x.put(1, 2);
        x.put(2, 2);
        due(0, x.put(0, 3));
        due(2, x.put(3, 1));
        // block 3 lies over it without resting on it
        due(0, x.of(0, 7));
        due(false, x.take(0, 10));
        due(1, x.refused(0));
        due(false, x.take(1, 10));
        due(true, x.take(3, 10));
        due(true, x.take(0, 10));
        due(false, x.take(1, 10));
        due(true, x.take(2, 10));
        due(true, x.take(1, 10));
        // by its second column alone
        x.put(4, 3);
        due(1, x.put(0, 4));
        due(false, x.take(4, 10));
        due(true, x.take(0, 10));
        due(true, x.take(4, 10));
    }

    private static void carries() {
        says("A CARRY onto a column: the LEVEL; NONE if it is REFUSED.");
        DuskTower x = new DuskTower();
        x.block(1, 1, 1, 0, 10);
        x.block(1, 1, 1, 0, 10);
        x.block(1, 1, 1, 0, 10);
        x.block(2, 1, 1, 0, 10);
        due(0, x.put(0, 0));
        due(1, x.put(1, 0));
        due(NONE, x.put(2, 0));
        due(NONE, x.put(3, 0));
        due(NONE, x.put(4, 0));
        due(0, x.put(2, 1));
        due(3, x.look(4));
        says("A CARRY to a PLACE: true; false if it is REFUSED.");
        due(false, x.take(0, 10));
        due(false, x.take(3, 10));
        due(false, x.take(4, 10));
        due(false, x.take(1, 60));
        due(true, x.take(1, 10));
        due(true, x.take(0, 10));
        due(false, x.take(0, 10));
        due(5, x.look(4));
    }

    private static void costs() {
        says("COST: from PLACE p to column c and LEVEL l (or back): p less 10 less c (without its sign) and l.");
        int[][] all = {{0, 0, 10}, {10, 0, 0}, {9, 0, 1}, {11, 0, 1}, {14, 4, 0}, {13, 4, 1}, {0, 4, 14}, {59, 0, 49},
            {59, 4, 45}};
        for (int[] one : all) {
            DuskTower x = new DuskTower();
            x.block(1, 1, 1, 0, one[0]);
            x.put(0, one[1]);
            due(one[2], x.look(5));
            due(1, x.look(4));
            x.take(0, one[0]);
            due(2 * one[2], x.look(5));
            due(2, x.look(4));
        }
        // by the left column of a long one; the level both ways
        DuskTower x = withPlain(2);
        x.block(3, 1, 9, 0, 13);
        x.put(0, 3);
        x.put(1, 3);
        due(3 + 3 + 1, x.look(5));
        due(2, x.put(2, 2));
        due(7 + 1 + 2, x.look(5));
        x.take(2, 12);
        due(10 + 2, x.look(5));
    }

    private static void refusedAsked() {
        says("what 0 why it was REFUSED (0: it was not, or none yet), 1 the BLOCK with too much LOAD (NONE)");
        DuskTower x = new DuskTower();
        due(0, x.refused(0));
        due(NONE, x.refused(1));
        x.block(1, 5, 4, 0, 10);
        x.block(1, 5, 4, 0, 10);
        x.put(0, 0);
        due(0, x.refused(0));
        x.put(1, 0);
        due(3, x.refused(0));
        due(0, x.refused(1));
        // it is of the latest carry, whatever else is called since
        x.undo();
        x.noon();
        x.dusk();
        x.plan(1, 0);
        x.which(3, 0);
        x.down(0);
        x.columns(3);
        x.image(true);
        x.image(false);
        due(3, x.refused(0));
        due(0, x.refused(1));
        x.take(5, 0);
        due(1, x.refused(0));
        due(NONE, x.refused(1));
        x.block(1, 5, 4, 0, 10);
        x.put(0, 0);
        due(0, x.refused(0));
        due(NONE, x.refused(1));
        x.put(0, 0);
        x.take(0, 0);
        due(0, x.refused(0));
        due(NONE, x.refused(1));
        says("(NONE). NONE for another what.");
        x.put(5, 5);
        due(NONE, x.refused(-1));
        due(NONE, x.refused(2));
        for (int bad : WILD) {
            due(NONE, x.refused(bad));
        }
    }

    private static void ofAsked() {
        says("4 the PLACE (NONE: in THE TOWER), 5 the column (NONE), 6 LEVEL (NONE), 7 LOAD (0 in THE YARD)");
        DuskTower x = withPlain(2);
        due(10, x.of(1, 4));
        due(NONE, x.of(1, 5));
        due(NONE, x.of(1, 6));
        due(0, x.of(1, 7));
        x.put(1, 2);
        due(NONE, x.of(1, 4));
        due(2, x.of(1, 5));
        due(0, x.of(1, 6));
        x.dusk();
        due(12, x.of(1, 4));
        due(NONE, x.of(1, 5));
        due(NONE, x.of(1, 6));
        says("NONE - 1 if there is none such, or another what.");
        for (int bad : new int[] {-1, 2, 3, 19, 20, Integer.MIN_VALUE, Integer.MAX_VALUE}) {
            due(NONE - 1, x.of(bad, 0));
            due(NONE - 1, x.of(bad, 9));
        }
        for (int bad : new int[] {-1, 10, 11, Integer.MIN_VALUE, Integer.MAX_VALUE}) {
            due(NONE - 1, x.of(0, bad));
        }
        due(NONE - 1, new DuskTower().of(0, 0));
    }

    private static void heightAsked() {
        says("HEIGHT of a column; of THE TOWER for NONE. NONE - 1 if there is none such.");
        DuskTower x = withPlain(1);
        due(0, x.height(NONE));
        x.put(0, 4);
        due(1, x.height(NONE));
        due(1, x.height(4));
        due(0, x.height(0));
        due(NONE - 1, x.height(-2));
        due(NONE - 1, x.height(5));
        due(NONE - 1, x.height(7));
        for (int bad : WILD) {
            due(NONE - 1, x.height(bad));
        }
        x.columns(2);
        due(NONE - 1, x.height(4));
        due(0, x.height(1));
    }

    private static void downAsked() {
        says("DOWN: THE TOWER taken down one by one, always the least BLOCK on which nothing lies: the ORDER.");
        DuskTower x = withPlain(4);
        x.put(3, 0);
        x.put(0, 0);
        x.put(2, 1);
        due(0, x.down(0));
        due(2, x.down(1));
        due(3, x.down(2));
        x.put(1, 0);
        due(1, x.down(0));
        due(0, x.down(1));
        // what lies over it without resting on it must go first
        DuskTower y = withPlain(3);
        plain(y, 3);
        y.put(0, 0);
        y.put(1, 1);
        y.put(2, 1);
        y.put(3, 0);
        int[] order = {3, 0, 2, 1};
        for (int i = 0; i < 4; i++) {
            due(order[i], y.down(i));
        }
        says("DOWN: the i-th BLOCK that is taken (0 ..); NONE if there is none such.");
        due(NONE, y.down(4));
        due(NONE, y.down(-1));
        due(NONE, y.down(19));
        due(NONE, y.down(20));
        for (int bad : WILD) {
            due(NONE, y.down(bad));
        }
        due(NONE, new DuskTower().down(0));
        due(NONE, withPlain(1).down(0));
        DuskTower z = withPlain(20);
        for (int i = 0; i < 20; i++) {
            z.put(i, 0);
        }
        due(19, z.down(0));
        due(0, z.down(19));
        due(NONE, z.down(20));
        due(20, z.look(2));
    }
}
