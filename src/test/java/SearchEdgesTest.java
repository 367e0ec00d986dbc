/** The sentences on plans, towers that might have been, hands, winds and bets that name a boundary case: 15, 17 to 23. */
public final class SearchEdgesTest extends Check {
    private static final int[] WILD = {Integer.MIN_VALUE, Integer.MIN_VALUE + 1, -100, -2, -1,
        Integer.MAX_VALUE - 1, Integer.MAX_VALUE};

    private SearchEdgesTest() {
    }

    public static void main(String[] args) {
        planRanges();
        planFewest();
        planBeside();
        planLeastCost();
        planFirst();
        planAsked();
        whichSets();
        whichTowers();
        whichStands();
        whichStrengths();
        whichFirst();
        whichAsked();
        hands();
        quarrels();
        fewestHands();
        winds();
        pays();
        stopOrGo();
        fallsForGood();
        goes();
        worthAsked();
        bets();
        betAsked();
        finish("each edge of what is sought holds");
    }

    private static void duePlan(DuskTower x, int height, int... want) {
        due(want[0], x.plan(height, 0));
        due(want[1], x.plan(height, 1));
        for (int i = 0; i < 6; i++) {
            int at = 2 + 2 * i;
            due(at < want.length ? want[at] : NONE, x.plan(height, 10 + i));
            due(at < want.length ? want[at + 1] : NONE, x.plan(height, 20 + i));
        }
    }

    private static void planRanges() {
        says("A PLAN for a HEIGHT 1 .. 20");
        DuskTower x = withPlain(20);
        for (int i = 0; i < 19; i++) {
            x.put(i, 0);
        }
        duePlan(x, 1, 0, 0);
        duePlan(x, 19, 0, 0);
        duePlan(x, 20, 1, 19, 19, 0);
        duePlan(x, 21, NONE, NONE);
        duePlan(x, 0, NONE, NONE);
        for (int bad : WILD) {
            due(NONE, x.plan(bad, 0));
        }
        says("(6 BLOCKS at most in THE YARD, W 5 at most)");
        DuskTower y = withPlain(7);
        due(NONE, y.plan(1, 0));
        y.put(6, 0);
        due(0, y.plan(1, 0));
        due(1, y.plan(2, 0));
        y.take(6, 10);
        due(NONE, y.plan(1, 0));
        for (int w = 2; w <= 8; w++) {
            y.columns(w);
            plain(y, 1);
            due(w <= 5 ? 1 : NONE, y.plan(1, 0));
            due(w <= 5 ? 0 : NONE, y.plan(1, 1));
            due(w <= 5 ? 0 : NONE, y.plan(1, 20));
        }
    }

    private static void planFewest() {
        says("the fewest CARRIES from THE YARD (5 at most, none REFUSED)");
        DuskTower x = withPlain(6);
        duePlan(x, 5, 5, 10, 0, 0, 1, 0, 2, 0, 3, 0, 4, 0);
        duePlan(x, 6, NONE, NONE);
        x.put(3, 4);
        due(5, x.plan(6, 0));
        due(NONE, x.plan(7, 0));
        // fewest goes ahead of what it costs: one from far away, or three that lie near
        DuskTower y = new DuskTower();
        y.columns(2);
        y.block(1, 1, 0, 0, 10);
        y.block(1, 1, 9, 0, 59);
        y.block(1, 1, 9, 0, 11);
        y.put(0, 0);
        y.put(2, 1);
        duePlan(y, 2, 1, 49, 1, 1);
        says("(5 at most, none REFUSED)");
        // block 1 would not stand, block 2 is too heavy
        DuskTower z = new DuskTower();
        z.block(1, 1, 4, 0, 10);
        z.block(2, 1, 9, 0, 10);
        z.block(1, 5, 9, 0, 10);
        z.put(0, 0);
        // so 2 and then 1 on both would be too heavy, too: block 2 goes below, 1 lies on 0 and 2
        duePlan(z, 2, 2, 2, 2, 1, 1, 0);
        duePlan(z, 3, NONE, NONE);
        says("behind which THE TOWER has that HEIGHT or more");
        z.columns(5);
        for (int i = 0; i < 4; i++) {
            plain(z, 1);
        }
        for (int i = 0; i < 3; i++) {
            z.put(i, 2);
        }
        for (int height = 1; height <= 3; height++) {
            duePlan(z, height, 0, 0);
        }
        duePlan(z, 4, 1, 5, 3, 2);
        says("NONE without; 0 CARRIES if it has it already");
        due(NONE, new DuskTower().plan(1, 0));
        due(NONE, new DuskTower().plan(1, 1));
        due(NONE, new DuskTower().plan(1, 10));
        duePlan(z, 1, 0, 0);
        DuskTower none = withPlain(1);
        none.put(0, 3);
        duePlan(none, 1, 0, 0);
        duePlan(none, 2, NONE, NONE);
    }

    private static void planBeside() {
        says("the fewest CARRIES from THE YARD (5 at most, none REFUSED)");
        // one of length 3 on two pillars: 5 to the left, which bears 5, and 4 to the right
        DuskTower x = new DuskTower();
        x.columns(3);
        x.block(3, 9, 0, 0, 10);
        x.block(1, 9, 5, 0, 10);
        x.block(1, 9, 4, 0, 12);
        duePlan(x, 2, 3, 1, 1, 0, 2, 2, 0, 0);
        x.put(2, 2);
        duePlan(x, 2, 2, 1, 1, 0, 0, 0);
        // the same, where the long one lies at the least place of all
        x.columns(3);
        x.block(3, 9, 0, 0, 0);
        x.block(1, 9, 5, 0, 10);
        x.block(1, 9, 4, 0, 12);
        duePlan(x, 2, 3, 11, 1, 0, 2, 2, 0, 0);
        // all five, as pillars bear 4 each and no pillar lies on another
        DuskTower y = new DuskTower();
        y.columns(3);
        y.block(3, 9, 3, 0, 10);
        for (int i = 0; i < 3; i++) {
            y.block(1, 9, 4, 0, 10 + i);
        }
        y.block(1, 3, 0, 0, 12);
        duePlan(y, 2, 2, 1, 0, 0, 4, 2);
        duePlan(y, 3, 5, 3, 1, 0, 2, 1, 3, 2, 0, 0, 4, 2);
        duePlan(y, 4, NONE, NONE);
        says("a column by which it would reach beyond");
        // the nearest column would be beyond
        for (int length = 1; length <= 3; length++) {
            DuskTower z = new DuskTower();
            z.block(length, 1, 9, 0, 0);
            duePlan(z, 1, 1, 10, 0, 0);
            z.put(0, 0);
            z.take(0, 59);
            duePlan(z, 1, 1, 44 + length, 0, 5 - length);
        }
    }

    private static void planLeastCost() {
        says("of several the least COST together");
        DuskTower x = new DuskTower();
        x.block(1, 1, 9, 0, 20);
        x.block(1, 1, 9, 0, 13);
        x.block(1, 1, 9, 0, 12);
        duePlan(x, 1, 1, 0, 1, 3);
        // 1 to column 3 and 2 there at level 1, or both to column 2: 2 each; the first has 1 at column 2
        duePlan(x, 2, 2, 2, 1, 2, 2, 2);
        // at column 3: 7, 0 and 1 and the levels
        duePlan(x, 3, 3, 11, 0, 3, 1, 3, 2, 3);
    }

    private static void planFirst() {
        says("then the first (CARRY by CARRY, the lesser BLOCK, then column)");
        // 3 by any order, at columns 0, 1 or 2
        DuskTower x = new DuskTower();
        x.block(1, 1, 9, 0, 12);
        x.block(1, 1, 9, 0, 10);
        duePlan(x, 2, 2, 3, 0, 0, 1, 0);
        // column 0 for the first carry goes ahead of block 1 for the second: below stand 3, which bears 5, and 4
        DuskTower y = new DuskTower();
        y.block(1, 2, 99, 0, 10);
        y.block(1, 9, 99, 0, 11);
        y.block(1, 2, 99, 0, 9);
        y.block(1, 1, 5, 0, 10);
        y.block(1, 1, 99, 0, 11);
        y.put(3, 0);
        y.put(4, 1);
        duePlan(y, 3, 2, 4, 0, 0, 2, 0);
        // two pillars that can come in either order, and one on both
        DuskTower beside = new DuskTower();
        beside.columns(3);
        beside.block(1, 9, 2, 0, 11);
        beside.block(2, 4, 0, 0, 10);
        beside.block(1, 9, 2, 0, 12);
        duePlan(beside, 2, 3, 2, 0, 1, 2, 2, 1, 1);
        // a lesser block goes ahead of a lesser column
        DuskTower z = new DuskTower();
        z.block(1, 1, 9, 0, 14);
        z.block(1, 1, 9, 0, 10);
        duePlan(z, 1, 1, 0, 0, 4);
    }

    private static void planAsked() {
        says("A PLAN what 0 CARRIES, 1 COST, 10 + i the BLOCK of the i-th, 20 + i its column. NONE if there is none, one"
                + " can't be, or another what.");
        DuskTower x = withPlain(6);
        for (int what : new int[] {2, 3, 9, 15, 16, 19, 25, 26, 29, 30, 100}) {
            due(NONE, x.plan(5, what));
            due(NONE, x.plan(1, what));
        }
        for (int bad : WILD) {
            due(NONE, x.plan(5, bad));
        }
        due(4, x.plan(5, 14));
        due(0, x.plan(5, 24));
        due(NONE, x.plan(4, 14));
        due(NONE, x.plan(4, 24));
        // nothing is carried by it
        x.put(0, 1);
        String was = sight(x);
        x.plan(4, 0);
        dueSame(was, x);
        due(true, x.undo());
    }

    private static void whichSets() {
        says("NONE if one can't be (an empty set, one not in THE YARD, more than six)");
        DuskTower x = withPlain(8);
        due(NONE, x.which(0, 0));
        due(NONE, x.which(0, 10));
        for (int bit = 8; bit < 32; bit++) {
            due(NONE, x.which(1 << bit, 0));
            due(NONE, x.which(1 << bit | 1, 0));
        }
        due(NONE, x.which(-1, 0));
        due(NONE, x.which(127, 0));
        due(NONE, x.which(255, 0));
        // seven, six and one of them in the tower
        x.put(7, 0);
        due(NONE, x.which(128, 0));
        due(NONE, x.which(129, 0));
        due(1, x.which(1, 0));
        due(0, x.which(63, 0));
        x.take(7, 10);
        due(1, x.which(128, 0));
        due(1, x.which(1 << 6, 0));
        says("for a set of BLOCKS in THE YARD (6 at most)");
        DuskTower y = new DuskTower();
        for (int i = 0; i < 20; i++) {
            y.block(1, 1, 99, 0, i < 14 ? 0 : 10 + 2 * (i - 14));
        }
        // one on the other at column 0, or begun anew at columns 2 and 4
        due(NONE, y.which(0xfe000, 0));
        due(true, y.which(0xfc000, 0) > 1);
        due(0, y.which(0xfc000, 29));
        due(5, y.which(0xfc000, 49));
        due(0, y.which(0xfc000, 44));
        due(0, y.which(1, 0));
    }

    private static void whichTowers() {
        says("would leave each where it lies now");
        // alone it lies at level 0, so that columns 0 .. 4 are places 10 .. 14
        for (int place = 0; place < 60; place++) {
            DuskTower x = new DuskTower();
            x.block(1, 1, 9, 0, place);
            boolean is = place >= 10 && place <= 14;
            due(is ? 1 : 0, x.which(1, 0));
            due(is ? place - 10 : NONE, x.which(1, 10));
            due(is ? 0 : NONE, x.which(1, 30));
        }
        for (int length = 1; length <= 3; length++) {
            DuskTower x = new DuskTower();
            x.columns(8);
            x.block(length, 1, 9, 0, 17);
            x.block(length, 1, 9, 0, 18 - length);
            due(length == 1 ? 1 : 0, x.which(1, 0));
            due(1, x.which(2, 0));
            due(8 - length, x.which(2, 11));
        }
        says("how many towers of just these");
        // what stands is of no account, and what is not in the set neither
        DuskTower y = withPlain(3);
        y.put(1, 0);
        y.put(2, 0);
        due(1, y.which(1, 0));
        due(0, y.which(1, 30));
        says("each at the LEVEL to which it belongs above those lower");
        // 12 is column 0 at level 1, or column 2: alone it can't be at level 1
        DuskTower z = new DuskTower();
        z.block(1, 1, 9, 0, 12);
        z.block(1, 1, 9, 0, 10);
        z.block(1, 1, 9, 0, 11);
        due(1, z.which(1, 0));
        due(2, z.which(1, 10));
        due(2, z.which(3, 0));
        due(0, z.which(3, 10));
        due(1, z.which(3, 30));
        due(1, z.which(5, 0));
        due(2, z.which(5, 10));
        // two at one place and one level can't be
        z.block(1, 1, 9, 0, 10);
        due(0, z.which(10, 0));
        due(NONE, z.which(10, 11));
    }

    private static void whichStands() {
        says("all of it STANDS");
        DuskTower x = new DuskTower();
        x.columns(3);
        x.block(1, 1, 9, 0, 10);
        x.block(1, 1, 9, 0, 11);
        x.block(1, 1, 9, 0, 12);
        x.block(2, 1, 9, 0, 12);
        x.block(3, 1, 9, 0, 12);
        // of length 2 at columns 0 and 1, level 1
        due(0, x.which(9, 0));
        due(0, x.which(10, 0));
        due(1, x.which(11, 0));
        due(1, x.which(11, 33));
        // of length 3 on the middle one, the outer ones, one of them; 2 may also lie on 0 at level 1, but then not 4
        int[] stands = {0, 0, 1, 1, 0, 1, 1, 1};
        for (int set = 1; set < 8; set++) {
            due(stands[set], x.which(16 | set, 0));
        }
        says("no LOAD is too great");
        for (int weight = 4; weight <= 6; weight++) {
            DuskTower y = new DuskTower();
            y.columns(2);
            y.block(1, 1, 5, 0, 10);
            y.block(1, weight, 9, 0, 12);
            due(weight > 5 ? 0 : 1, y.which(3, 0));
        }
        DuskTower holy = new DuskTower();
        holy.columns(2);
        holy.block(1, 1, 999, 4, 10);
        holy.block(1, 1, 999, 4, 12);
        due(0, holy.which(3, 0));
        // more than one high: the lowest has both
        DuskTower z = new DuskTower();
        z.columns(2);
        z.block(1, 1, 3, 0, 10);
        z.block(1, 2, 9, 0, 12);
        z.block(1, 2, 9, 0, 14);
        due(0, z.which(7, 0));
        due(1, z.which(3, 0));
    }

    private static void whichStrengths() {
        says("(STRENGTHS as they are)");
        DuskTower x = new DuskTower();
        x.block(1, 1, 99, 0, 10);
        x.block(1, 1, 1, 0, 10);
        x.block(1, 1, 0, 0, 10);
        for (int i = 0; i < 3; i++) {
            due(i, x.put(i, 0));
        }
        x.dusk();
        due(0, x.of(1, 2));
        // as it stood block 1 would now have too much: 2 lies alone, 1 on 0 or alone
        due(2, x.which(7, 0));
        due(0, x.which(7, 11));
        due(4, x.which(7, 12));
    }

    private static void whichFirst() {
        says("the first (by the columns of the BLOCKS, the least BLOCK first)");
        // 0 at column 0 on 2, or at column 2; 1 at column 1 on 3, or at column 3
        DuskTower x = new DuskTower();
        x.block(1, 1, 9, 0, 12);
        x.block(1, 1, 9, 0, 13);
        x.block(1, 1, 9, 0, 10);
        x.block(1, 1, 9, 0, 11);
        due(4, x.which(15, 0));
        int[] columns = {0, 1, 0, 1};
        int[] levels = {1, 1, 0, 0};
        for (int b = 0; b < 4; b++) {
            due(columns[b], x.which(15, 10 + b));
            due(levels[b], x.which(15, 30 + b));
        }
        says("BLOCK for BLOCK at a column and LEVEL");
        // either 0 or 1 may lie on 2, which are two towers, though the blocks are alike
        DuskTower y = new DuskTower();
        y.block(1, 1, 9, 0, 12);
        y.block(1, 1, 9, 0, 12);
        y.block(1, 1, 9, 0, 10);
        due(2, y.which(7, 0));
        due(0, y.which(7, 10));
        due(2, y.which(7, 11));
        due(1, y.which(7, 30));
        due(0, y.which(7, 31));
    }

    private static void whichAsked() {
        says("there is none, b is not in it, or another what.");
        DuskTower x = withPlain(3);
        x.block(1, 1, 9, 0, 30);
        due(0, x.which(8, 0));
        due(NONE, x.which(8, 13));
        due(NONE, x.which(8, 33));
        due(NONE, x.which(1, 11));
        due(NONE, x.which(1, 31));
        due(NONE, x.which(1, 14));
        due(NONE, x.which(1, 29));
        due(NONE, x.which(1, 49));
        for (int what : new int[] {1, 2, 9, 50, 51, 62, 74, 100}) {
            due(NONE, x.which(1, what));
        }
        for (int bad : WILD) {
            due(NONE, x.which(1, bad));
        }
        x.put(1, 4);
        String was = sight(x);
        due(1, x.which(1, 0));
        dueSame(was, x);
    }

    private static void hands() {
        says("A HAND: its number; NONE if one can't be, or there are eight.");
        DuskTower x = new DuskTower();
        for (int bad : new int[] {0, 100, 101}) {
            due(NONE, x.hand(bad));
        }
        for (int bad : WILD) {
            due(NONE, x.hand(bad));
        }
        due(0, x.look(8));
        due(0, x.hand(1));
        due(1, x.hand(99));
        for (int i = 2; i < 8; i++) {
            due(i, x.hand(7));
        }
        due(NONE, x.hand(7));
        due(8, x.look(8));
        says("HANDS 0 .. 7 as they come: ARMS 1 .. 99");
        x.block(1, 99, 9, 0, 10);
        due(2, x.of(0, 9));
        x.block(1, 1, 9, 0, 10);
        due(1, x.of(1, 9));
    }

    private static void quarrels() {
        says("Two unlike HANDS QUARREL or not: true; false if one can't be.");
        DuskTower x = new DuskTower();
        x.block(1, 10, 9, 0, 10);
        due(false, x.quarrel(0, 1, true));
        for (int i = 0; i < 3; i++) {
            x.hand(5);
        }
        for (int bad : new int[] {-1, 3, 7, 8, 32, Integer.MIN_VALUE, Integer.MAX_VALUE}) {
            due(false, x.quarrel(0, bad, true));
            due(false, x.quarrel(bad, 0, true));
            due(false, x.quarrel(bad, bad, false));
        }
        for (int i = 0; i < 3; i++) {
            due(false, x.quarrel(i, i, true));
            due(false, x.quarrel(i, i, false));
        }
        due(3, x.of(0, 9));
        due(true, x.quarrel(0, 1, true));
        due(true, x.quarrel(1, 0, true));
        due(5, x.of(0, 9));
        // either one may be named first, also when they make peace; once is enough
        due(true, x.quarrel(1, 0, false));
        due(3, x.of(0, 9));
        due(true, x.quarrel(1, 0, false));
        due(true, x.quarrel(2, 1, true));
        due(true, x.quarrel(2, 0, true));
        due(true, x.quarrel(0, 1, true));
        due(NONE, x.of(0, 9));
        // one who comes later has no quarrel
        due(3, x.hand(5));
        due(9, x.of(0, 9));
    }

    private static void fewestHands() {
        says("the least set (fewest, then as a number) of HANDS of whom no two QUARREL, with ARMS together not below its"
                + " WEIGHT");
        DuskTower x = new DuskTower();
        x.block(1, 10, 9, 0, 10);
        x.block(1, 11, 9, 0, 10);
        x.block(1, 21, 9, 0, 10);
        due(NONE, x.of(0, 9));
        x.hand(4);
        x.hand(6);
        due(3, x.of(0, 9));
        due(NONE, x.of(1, 9));
        x.hand(7);
        x.hand(5);
        due(3, x.of(0, 9));
        due(5, x.of(1, 9));
        due(15, x.of(2, 9));
        // one alone is fewer, though a greater number
        x.hand(10);
        due(16, x.of(0, 9));
        due(5, x.of(1, 9));
        x.hand(11);
        due(16, x.of(0, 9));
        due(32, x.of(1, 9));
        due(48, x.of(2, 9));
        x.quarrel(4, 5, true);
        // 10 and 11 no more: 4 + 6 + 10 is too little, 4 + 7 + 10 the least of three
        due(21, x.of(2, 9));
        // of eight who all must help
        DuskTower y = new DuskTower();
        y.block(1, 8, 9, 0, 10);
        for (int i = 0; i < 8; i++) {
            due(NONE, y.of(0, 9));
            y.hand(1);
        }
        due(255, y.of(0, 9));
        y.quarrel(6, 7, true);
        due(NONE, y.of(0, 9));
        says("9 FEWEST HANDS as a set (NONE)");
        y.put(0, 0);
        due(NONE, y.of(0, 9));
        y.quarrel(6, 7, false);
        due(255, y.of(0, 9));
    }

    private static void winds() {
        says("for HOURS 0 .. 7 and HEIGHTS 1 .. 8 a CHANCE 0 .. 10 of 10 (0 at first)");
        DuskTower x = new DuskTower();
        due(100000000, x.bet(8, 8));
        for (int bad : new int[] {8, 9}) {
            due(false, x.wind(bad, 1, 5));
        }
        for (int bad : new int[] {0, 9, 10}) {
            due(false, x.wind(0, bad, 5));
        }
        for (int bad : new int[] {11, 12}) {
            due(false, x.wind(0, 1, bad));
        }
        for (int bad : WILD) {
            due(false, x.wind(bad, 1, 5));
            due(false, x.wind(0, bad, 5));
            due(false, x.wind(0, 1, bad));
        }
        due(100000000, x.bet(8, 8));
        due(true, x.wind(0, 1, 10));
        due(0, x.bet(8, 8));
        due(true, x.wind(0, 1, 0));
        due(100000000, x.bet(8, 8));
        due(true, x.wind(7, 8, 1));
        due(90000000, x.bet(8, 8));
        due(10000000, x.bet(7, 7));
        // every hour and height by itself: only the eighth of each eight lies on the way up from 0
        says("CHANCE of an HOUR and a HEIGHT: true; false if one can't be.");
        DuskTower y = new DuskTower();
        for (int hour = 0; hour < 8; hour++) {
            for (int height = 1; height <= 8; height++) {
                due(true, y.wind(hour, height, height == hour + 1 ? 0 : 10));
            }
        }
        due(100000000, y.bet(8, 8));
        for (int hour = 0; hour < 8; hour++) {
            due(true, y.wind(hour, hour + 1, hour + 1));
        }
        due(9L * 8 * 7 * 6 * 5 * 4 * 3 * 2, y.bet(8, 8));
    }

    private static void pays() {
        says("PAY by HEIGHT 0 .. 8, 0 .. 999 (0 at first)");
        DuskTower x = new DuskTower();
        for (int height = 0; height <= 8; height++) {
            due(0, x.worth(1, 1, height, 0));
        }
        due(false, x.pay(9, 5));
        due(false, x.pay(0, 1000));
        for (int bad : WILD) {
            due(false, x.pay(bad, 5));
            due(false, x.pay(0, bad));
        }
        due(0, x.worth(1, 1, 0, 0));
        says("PAY for a HEIGHT: true; false if one can't be.");
        for (int height = 0; height <= 8; height++) {
            due(true, x.pay(height, 999 - height));
        }
        for (int height = 0; height <= 8; height++) {
            due(999 - height, x.worth(1, 1, height, 0));
            due(true, x.pay(height, 0));
            due(0, x.worth(1, 1, height, 0));
        }
    }

    private static void stopOrGo() {
        says("one is higher (8 at most: at 8 one must STOP)");
        DuskTower x = new DuskTower();
        x.pay(8, 3);
        x.pay(7, 1);
        x.pay(0, 999);
        x.wind(0, 8, 10);
        // at 8 it stands by stopping, though falling would pay more
        due(30, x.worth(1, 0, 8, 0));
        due(0, x.worth(1, 0, 8, 1));
        due(300000000, x.worth(8, 0, 8, 0));
        due(0, x.worth(8, 0, 8, 1));
        // from 7 one goes on, and falls
        due(9990, x.worth(1, 0, 7, 0));
        due(1, x.worth(1, 0, 7, 1));
        says("behind HOUR n less 1 one must STOP");
        DuskTower y = new DuskTower();
        y.pay(1, 5);
        y.pay(2, 9);
        for (int n = 1; n <= 8; n++) {
            due(0, y.worth(n, n, 0, 0));
            due(0, y.worth(n, n, 0, 1));
            due(5, y.worth(n, n, 1, 0));
            due(0, y.worth(n, n, 1, 1));
            due(50, y.worth(n, n - 1, 0, 0));
            due(90, y.worth(n, n - 1, 1, 0));
            due(1, y.worth(n, n - 1, 1, 1));
        }
        says("At each HOUR h of n (1 .. 8), with a HEIGHT: to STOP is worth PAY");
        for (int bad : new int[] {-1, 0, 9}) {
            due(NONE, y.worth(bad, 0, 2, 0));
        }
        due(90, y.worth(1, 0, 2, 0));
        due(900000000, y.worth(8, 0, 2, 0));
        says("WORTH by the best: as a fraction of 10 to the n");
        due(900, y.worth(2, 0, 0, 0));
        due(900000000, y.worth(8, 0, 0, 0));
        y.pay(8, 999);
        due(99900000000L, y.worth(8, 0, 0, 0));
        due(99900000000L, y.worth(8, 0, 8, 0));
    }

    private static void fallsForGood() {
        says("then it falls (worth PAY of HEIGHT 0, and all is over) or not");
        DuskTower x = new DuskTower();
        x.pay(1, 10);
        x.pay(2, 100);
        x.wind(0, 1, 10);
        // it falls at hour 0: no height at hour 1 any more
        due(100, x.worth(2, 1, 0, 0));
        due(0, x.worth(1, 0, 0, 0));
        due(0, x.worth(2, 0, 0, 0));
        due(0, x.worth(2, 0, 0, 1));
        x.pay(0, 4);
        // stopping at once pays 4 as well
        due(400, x.worth(2, 0, 0, 0));
        due(0, x.worth(2, 0, 0, 1));
        x.wind(0, 1, 5);
        x.wind(1, 2, 3);
        // 3 * 4 + 7 * 100 of 100 at hour 1; 5 * 4 * 10 + 5 * 712 of 100 at hour 0
        due(712, x.worth(2, 1, 1, 0));
        due(3760, x.worth(2, 0, 0, 0));
    }

    private static void goes() {
        says("GOES: whether to GO ON is worth more than to STOP");
        DuskTower x = new DuskTower();
        due(0, x.worth(8, 0, 0, 1));
        x.pay(0, 5);
        x.pay(1, 5);
        due(0, x.worth(1, 0, 0, 1));
        x.pay(1, 6);
        due(1, x.worth(1, 0, 0, 1));
        x.wind(0, 1, 9);
        due(1, x.worth(1, 0, 0, 1));
        x.wind(0, 1, 10);
        due(0, x.worth(1, 0, 0, 1));
        x.wind(0, 1, 0);
        x.pay(1, 4);
        due(0, x.worth(1, 0, 0, 1));
        due(50, x.worth(1, 0, 0, 0));
        // it goes for what comes two hours later
        x.pay(2, 7);
        due(1, x.worth(2, 0, 0, 1));
        due(700, x.worth(2, 0, 0, 0));
    }

    private static void worthAsked() {
        says("NONE if one can't be (h 0 .. n), or another what.");
        DuskTower x = new DuskTower();
        x.pay(0, 1);
        for (int n = 1; n <= 8; n++) {
            due(NONE, x.worth(n, -1, 0, 0));
            due(NONE, x.worth(n, n + 1, 0, 0));
            due(1, x.worth(n, n, 0, 0));
        }
        for (int bad : new int[] {0, 9, 10}) {
            due(NONE, x.worth(bad, 0, 0, 0));
        }
        due(NONE, x.worth(0, 0, 0, 1));
        due(NONE, x.worth(8, 0, 9, 0));
        due(NONE, x.worth(8, 0, 9, 1));
        due(NONE, x.worth(8, 0, 0, 2));
        for (int bad : WILD) {
            due(NONE, x.worth(bad, 0, 0, 0));
            due(NONE, x.worth(8, bad, 0, 0));
            due(NONE, x.worth(8, 0, bad, 0));
            due(NONE, x.worth(8, 0, 0, bad));
        }
    }

    private static void bets() {
        says("(no STOP; one that fell has HEIGHT 0 for good): its chance of 10 to the n");
        DuskTower x = new DuskTower();
        x.pay(1, 999);
        x.wind(0, 1, 10);
        due(0, x.bet(1, 1));
        due(0, x.bet(2, 1));
        due(0, x.bet(8, 1));
        x.wind(0, 1, 4);
        x.wind(1, 2, 5);
        due(6, x.bet(1, 1));
        due(30, x.bet(2, 1));
        due(30, x.bet(2, 2));
        due(300, x.bet(3, 3));
        says("A BET on having HEIGHT k or more behind n HOURS of going on and on from HEIGHT 0");
        // 0 or more it is always; more than n it can't be
        long all = 1;
        for (int n = 1; n <= 8; n++) {
            all *= 10;
            due(all, x.bet(n, 0));
            due(n < 8 ? 0 : 30000000, x.bet(n, 8));
            if (n < 8) {
                due(0, x.bet(n, n + 1));
            }
        }
    }

    private static void betAsked() {
        says("A BET on HEIGHT k behind n HOURS, of 10 to the n; NONE if one can't be.");
        DuskTower x = new DuskTower();
        for (int bad : new int[] {0, 9, 10}) {
            due(NONE, x.bet(bad, 0));
        }
        due(NONE, x.bet(8, 9));
        due(NONE, x.bet(1, 9));
        for (int bad : WILD) {
            due(NONE, x.bet(bad, 0));
            due(NONE, x.bet(8, bad));
        }
        due(10, x.bet(1, 0));
        due(100000000, x.bet(8, 8));
    }
}
