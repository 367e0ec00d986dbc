/** Each promise by calls whose answers were worked out by hand from the document: ordinary ones, edges, wrong ones. */
public final class PromisesTest extends Check {
    private PromisesTest() {
    }

    public static void main(String[] args) {
        promise(1);
        newObject();
        promise(2);
        columns();
        promise(3);
        block();
        promise(4);
        put();
        promise(5);
        take();
        promise(6);
        refused();
        promise(7);
        of();
        promise(8);
        height();
        promise(9);
        noon();
        promise(10);
        dusk();
        promise(11);
        feed();
        promise(12);
        end();
        promise(13);
        text();
        promise(14);
        fault();
        promise(15);
        plan();
        promise(16);
        down();
        promise(17);
        which();
        promise(18);
        hand();
        promise(19);
        quarrel();
        promise(20);
        wind();
        promise(21);
        pay();
        promise(22);
        worth();
        promise(23);
        bet();
        promise(24);
        undo();
        promise(25);
        image();
        promise(26);
        look();
        finish("all promises hold");
    }

    private static void promise(int n) {
        about("promise " + n);
    }

    // ---- 1 .. 3 ----

    private static void newObject() {
        DuskTower x = new DuskTower();
        due(-1, DuskTower.NONE);
        dueLooks(x, 5, 0, 0, 0, 0, 0, 0, 0, 0, 0, 0);
        due(0, x.height(4));
        due(-2, x.height(5));
        due(-2, x.of(0, 0));
        due(0, x.refused(0));
        due(NONE, x.refused(1));
        due(0, x.fault(0));
        due(NONE, x.fault(1));
        due(false, x.image(false));
        due(false, x.undo());
        due(true, x.end(0));
        due(false, x.end(1));
        due(0, x.worth(1, 0, 0, 0));
        due(10, x.bet(1, 1));
        due(NONE, x.noon());
        due(NONE, x.dusk());
    }

    private static void columns() {
        DuskTower x = new DuskTower();
        due(false, x.columns(1));
        due(false, x.columns(9));
        due(false, x.columns(-3));
        due(false, x.columns(Integer.MIN_VALUE));
        due(5, x.look(0));
        due(true, x.columns(2));
        due(2, x.look(0));
        due(-2, x.height(2));
        due(true, x.columns(8));
        due(0, x.height(7));
        // told anew, even as it was: all is as at first
        x.block(1, 9, 9, 0, 10);
        x.block(1, 9, 9, 4, 10);
        x.put(0, 0);
        x.hand(20);
        x.hand(20);
        x.quarrel(0, 1, true);
        x.pay(0, 7);
        x.wind(0, 1, 4);
        due(1, vow(x, "noon height>1;"));
        due(0, x.noon());
        x.put(1, 0);
        x.put(1, 0);
        due(1, x.refused(0));
        x.image(true);
        due(NONE, vow(x, "noon"));
        fill(x, "noon 1=1;");
        due(false, x.columns(0));
        due(2, x.look(1));
        due(true, x.columns(8));
        dueLooks(x, 8, 0, 0, 0, 0, 0, 0, 0, 0, 0, 0);
        due(-2, x.of(0, 0));
        due(0, x.worth(1, 1, 0, 0));
        due(10, x.bet(1, 1));
        due(false, x.undo());
        // but these are not
        due(1, x.refused(0));
        due(1, x.fault(0));
        due(4, x.fault(1));
        due(1, x.text());
        due(NONE, x.noon());
        due(0, x.block(1, 30, 9, 0, 10));
        x.hand(20);
        x.hand(20);
        due(3, x.of(0, 9));
        due(true, x.image(false));
        due(2, x.look(1));
        due(-2, x.noon());
        due(1, x.look(7));
    }

    private static void block() {
        DuskTower x = new DuskTower();
        due(NONE, x.block(0, 1, 0, 0, 0));
        due(NONE, x.block(4, 1, 0, 0, 0));
        due(NONE, x.block(1, 0, 0, 0, 0));
        due(NONE, x.block(1, 100, 0, 0, 0));
        due(NONE, x.block(1, 1, -1, 0, 0));
        due(NONE, x.block(1, 1, 1000, 0, 0));
        due(NONE, x.block(1, 1, 0, -1, 0));
        due(NONE, x.block(1, 1, 0, 8, 0));
        due(NONE, x.block(1, 1, 0, 0, -1));
        due(NONE, x.block(1, 1, 0, 0, 60));
        due(0, x.look(1));
        due(0, x.block(1, 1, 0, 0, 0));
        due(1, x.block(3, 99, 999, 7, 59));
        for (int i = 2; i < 20; i++) {
            due(i, x.block(2, 5, 5, 0, 7));
        }
        due(NONE, x.block(1, 1, 0, 0, 0));
        due(20, x.look(1));
        due(3, x.of(1, 0));
        due(99, x.of(1, 1));
        due(999, x.of(1, 2));
        due(7, x.of(1, 3));
        due(59, x.of(1, 4));
        x.columns(2);
        due(NONE, x.block(3, 1, 0, 0, 0));
        due(0, x.block(2, 1, 0, 0, 0));
        // a block that comes makes the carries forgotten, one that can't be does not
        x.put(0, 0);
        x.block(3, 1, 0, 0, 0);
        due(1, x.look(9));
        x.block(1, 1, 0, 0, 0);
        due(0, x.look(9));
    }

    // ---- 4 .. 8 ----

    private static void put() {
        DuskTower x = new DuskTower();
        due(NONE, x.put(0, 0));
        for (int i = 0; i < 4; i++) {
            x.block(1, 2, 99, 0, 10 + i);
        }
        x.block(3, 10, 99, 0, 20);
        x.block(3, 10, 99, 0, 20);
        x.block(2, 10, 99, 0, 20);
        x.block(2, 7, 99, 0, 20);
        due(NONE, x.put(-1, 0));
        due(NONE, x.put(8, 0));
        due(NONE, x.put(0, -1));
        due(NONE, x.put(0, 5));
        due(NONE, x.put(4, 3));
        due(NONE, x.put(6, 4));
        due(NONE, x.put(0, Integer.MAX_VALUE));
        due(NONE, x.put(4, Integer.MAX_VALUE));
        due(0, x.look(4));
        due(0, x.put(0, 0));
        due(NONE, x.put(0, 0));
        due(NONE, x.put(0, 1));
        // length 2 wants both, length 3 the middle or both outer ones
        due(NONE, x.put(6, 0));
        due(NONE, x.put(4, 0));
        due(0, x.put(1, 2));
        due(1, x.put(4, 0));
        // 0, 1 and 10 + 1
        due(12, x.look(5));
        due(NONE, x.put(5, 2));
        due(2, x.put(2, 1));
        due(3, x.put(5, 0));
        // it reaches over columns 0 and 2, whose blocks end lower
        due(4, x.height(0));
        due(4, x.height(2));
        due(NONE, x.put(6, 2));
        due(4, x.put(6, 0));
        due(22, x.of(4, 7));
        due(16, x.of(0, 7));
    }

    private static void take() {
        DuskTower x = new DuskTower();
        due(false, x.take(0, 0));
        x.block(1, 2, 99, 0, 10);
        x.block(1, 2, 99, 0, 11);
        x.block(3, 2, 99, 0, 12);
        x.block(1, 2, 99, 0, 13);
        due(false, x.take(0, 10));
        x.put(0, 0);
        x.put(1, 1);
        x.put(3, 1);
        due(2, x.put(2, 0));
        // nothing rests on block 0, but block 2 lies higher in its column
        due(0, x.of(0, 7));
        due(false, x.take(0, 10));
        due(1, x.refused(0));
        due(false, x.take(2, 60));
        due(1, x.refused(0));
        due(false, x.take(2, -1));
        due(1, x.refused(0));
        due(false, x.take(4, 5));
        due(false, x.take(-1, 5));
        due(4, x.look(4));
        int cost = x.look(5);
        due(true, x.take(2, 59));
        due(cost + 49 + 2, x.look(5));
        due(5, x.look(4));
        due(false, x.take(1, 5));
        due(1, x.refused(0));
        due(59, x.of(2, 4));
        due(NONE, x.of(2, 5));
        due(NONE, x.of(2, 6));
        due(1, x.height(0));
        due(0, x.height(2));
        due(2, x.height(1));
        due(true, x.take(0, 0));
        due(0, x.height(0));
        due(cost + 51 + 10, x.look(5));
        due(false, x.take(0, 0));
        due(0, x.put(0, 0));
        due(cost + 51 + 20, x.look(5));
    }

    private static void refused() {
        DuskTower x = new DuskTower();
        due(NONE, x.refused(2));
        due(NONE, x.refused(-1));
        x.block(1, 2, 10, 0, 10);
        x.block(1, 6, 5, 0, 10);
        x.block(1, 6, 99, 0, 10);
        x.block(1, 1, 99, 4, 10);
        x.block(2, 1, 99, 0, 10);
        x.put(9, 0);
        due(1, x.refused(0));
        due(NONE, x.refused(1));
        x.put(0, 0);
        due(0, x.refused(0));
        due(NONE, x.refused(1));
        x.put(4, 0);
        due(2, x.refused(0));
        due(NONE, x.refused(1));
        x.put(1, 0);
        x.put(2, 0);
        // both would have too much: the higher one is told
        due(3, x.refused(0));
        due(1, x.refused(1));
        due(2, x.look(2));
        x.undo();
        due(3, x.refused(0));
        x.image(true);
        x.dusk();
        x.image(false);
        due(3, x.refused(0));
        due(1, x.refused(1));
        due(false, x.take(1, 5));
        due(1, x.refused(0));
        due(NONE, x.refused(1));
        due(true, x.take(0, 5));
        due(0, x.refused(0));
        // a holy one bears nothing; just as much as one bears is borne
        x.put(3, 0);
        x.put(0, 0);
        due(3, x.refused(0));
        due(3, x.refused(1));
        x.block(1, 10, 0, 0, 10);
        x.put(0, 1);
        x.put(5, 1);
        due(0, x.refused(0));
        // of two at one level the least number
        DuskTower y = new DuskTower();
        y.block(1, 1, 2, 0, 10);
        y.block(1, 1, 2, 0, 10);
        y.block(2, 9, 2, 0, 10);
        y.put(1, 0);
        y.put(0, 1);
        y.put(2, 0);
        due(3, y.refused(0));
        due(0, y.refused(1));
    }

    private static void of() {
        DuskTower x = new DuskTower();
        x.block(3, 11, 100, 1, 10);
        x.block(1, 5, 101, 2, 20);
        x.block(1, 5, 101, 3, 20);
        x.block(2, 5, 101, 4, 20);
        x.block(1, 5, 999, 7, 20);
        x.block(1, 5, 1, 3, 20);
        due(50, x.of(0, 8));
        due(33, x.of(1, 8));
        due(16, x.of(2, 8));
        due(0, x.of(3, 8));
        due(0, x.of(4, 8));
        due(0, x.of(5, 8));
        int[] all = {3, 11, 100, 1, 10, NONE, NONE, 0, 50, NONE};
        for (int i = 0; i < all.length; i++) {
            due(all[i], x.of(0, i));
        }
        due(-2, x.of(0, 10));
        due(-2, x.of(0, -1));
        due(-2, x.of(6, 0));
        due(-2, x.of(-1, 0));
        due(-2, x.of(6, 99));
        x.put(1, 1);
        x.put(2, 3);
        due(1, x.put(0, 1));
        due(NONE, x.of(0, 4));
        due(1, x.of(0, 5));
        due(1, x.of(0, 6));
        // 11 by two columns: what is left goes to the left one
        due(6, x.of(1, 7));
        due(5, x.of(2, 7));
        due(2, x.put(3, 2));
        due(5, x.of(0, 7));
        due(8, x.of(1, 7));
        due(8, x.of(2, 7));
        // three columns, two of them of one block
        DuskTower y = new DuskTower();
        y.block(2, 1, 99, 0, 10);
        y.block(1, 1, 99, 0, 10);
        y.block(3, 8, 99, 0, 10);
        y.put(0, 1);
        y.put(1, 3);
        y.put(2, 1);
        due(6, y.of(0, 7));
        due(2, y.of(1, 7));
        y.take(2, 10);
        due(0, y.of(0, 7));
        y.put(2, 0);
        // now the left column bears nothing: four and four, both of block 0
        due(8, y.of(0, 7));
        due(0, y.of(1, 7));
    }

    private static void height() {
        DuskTower x = new DuskTower();
        due(0, x.height(NONE));
        x.block(3, 1, 99, 0, 10);
        x.block(1, 1, 99, 0, 10);
        x.block(1, 1, 99, 0, 10);
        x.put(1, 1);
        x.put(0, 0);
        int[] heights = {2, 2, 2, 0, 0};
        for (int c = 0; c < 5; c++) {
            due(heights[c], x.height(c));
        }
        due(2, x.height(NONE));
        due(-2, x.height(5));
        due(-2, x.height(-2));
        due(-2, x.height(Integer.MAX_VALUE));
        x.put(2, 2);
        due(3, x.height(NONE));
        due(3, x.height(2));
        x.dusk();
        due(0, x.height(NONE));
    }

    // ---- 9 .. 14 ----

    private static void noon() {
        DuskTower x = new DuskTower();
        due(4, vow(x, "dusk 1=2; noon seen=1; noon height+blocks=2; noon cost=3;"));
        x.block(1, 1, 1, 0, 13);
        x.put(0, 0);
        due(NONE, x.noon());
        due(1, x.look(6));
        due(false, x.undo());
        x.take(0, 13);
        due(-2, x.noon());
        due(1, x.look(9));
        due(1, x.look(6));
        due(0, x.dusk());
        due(1, x.look(7));
        due(1, x.noon());
        due(0, x.look(6));
        due(2, x.look(7));
        due(-2, x.noon());
        due(2, x.look(7));
        // the first broken one alone is counted
        due(2, atNoon("noon 1=1;dusk 2=1;noon 1=2;noon 1=3;"));
        due(NONE, atNoon(""));
        // noon at height 0 was noon all the same
        DuskTower y = new DuskTower();
        due(NONE, y.noon());
        due(-2, y.noon());
        y.dusk();
        due(NONE, y.noon());
        vowValues();
    }

    private static void vowValues() {
        due(NONE, atNoon("noon 7-2-1=4;"));
        due(NONE, atNoon("noon 2+3*4=14;"));
        due(NONE, atNoon("noon 7/2*2=6;"));
        due(NONE, atNoon("noon 0-7/2=0-3;"));
        due(NONE, atNoon("noon 8/4/2=1;"));
        // 2199560022 wraps to -2095407274, whose part goes towards 0
        due(NONE, atNoon("noon 9999*9999*22<0;"));
        due(NONE, atNoon("noon 9999*9999*22/1000=0-2095*1000-407;"));
        due(0, atNoon("noon 1<1;"));
        due(0, atNoon("noon 1>1;"));
        due(NONE, atNoon("noon 1<2;noon 2>1;noon 0001=1;"));
        // and binds closer than or, not closer than and
        due(NONE, atNoon("noon 1=1 or 1=1 and 1=2;"));
        due(NONE, atNoon("noon 1=2 or 1=1;"));
        due(0, atNoon("noon 1=2 or 1=2 and 1=1;"));
        due(0, atNoon("noon (1=1 or 1=1) and 1=2;"));
        due(0, atNoon("noon not 1=2 and 1=2;"));
        due(NONE, atNoon("noon not (1=2 and 1=2);"));
        due(NONE, atNoon("noon not not 1=1;"));
        due(NONE, atNoon("noon1=1and 2=2or3=4;"));
    }

    private static void dusk() {
        DuskTower x = new DuskTower();
        due(7, vow(x, "dusk blocks=3;dusk height=3;dusk carries=3;dusk cost=5;dusk holy=1;dusk seen=2;dusk day=0;"));
        x.block(1, 1, 99, 0, 11);
        x.block(1, 1, 98, 0, 12);
        x.block(1, 1, 1, 4, 11);
        x.block(1, 1, 50, 0, 33);
        x.put(0, 1);
        x.put(1, 1);
        due(NONE, x.noon());
        x.put(2, 1);
        // cost 0, 1 + 1 and 0 + 2
        due(4, x.look(5));
        due(3, x.dusk());
        due(1, x.look(7));
        due(1, x.look(3));
        due(0, x.look(4));
        due(0, x.look(5));
        due(0, x.look(6));
        due(0, x.look(2));
        due(11, x.of(0, 4));
        due(13, x.of(1, 4));
        due(15, x.of(2, 4));
        due(33, x.of(3, 4));
        due(99, x.of(0, 2));
        due(97, x.of(1, 2));
        due(0, x.of(2, 2));
        due(50, x.of(3, 2));
        due(NONE, x.of(1, 5));
        due(NONE, x.of(1, 6));
        due(false, x.undo());
        due(0, x.dusk());
        due(2, x.look(3));
        due(2, vow(x, "noon day=2;dusk day=3;"));
        due(NONE, x.noon());
        due(1, x.dusk());
        // holy: the highest, of several the least number
        DuskTower y = new DuskTower();
        vow(y, "noon holy=0;dusk holy=1;");
        y.block(1, 1, 99, 4, 11);
        y.block(1, 1, 99, 0, 11);
        due(NONE, y.noon());
        y.put(1, 0);
        y.put(0, 1);
        due(NONE, y.dusk());
        y.put(0, 1);
        due(0, y.noon());
        y.put(1, 0);
        y.block(1, 1, 99, 0, 11);
        due(1, y.put(2, 0));
        due(1, y.dusk());
    }

    private static void feed() {
        DuskTower x = new DuskTower();
        due(20, feed(x, "noon 1=1;" + " ".repeat(11), 0));
        due(1, x.text());
        for (int i = 1; i <= 20; i++) {
            due(20 * i, x.feed(0x20202020, 0x0a0a0a0a, 0x20202020, 0x20202020, 0x20202020));
        }
        due(NONE, x.feed(0, 0, 0, 0, 0));
        due(true, x.end(400));
        due(NONE, x.feed(0, 0, 0, 0, 0));
        due(true, x.end(381));
        due(NONE, x.feed(0, 0, 0, 0, 0));
        due(true, x.end(380));
        due(400, x.feed(0x20202020, 0x20202020, 0x20202020, 0x20202020, 0x20202020));
        due(0, x.text());
        due(20, x.feed(-1, -1, -1, -1, -1));
        due(NONE, x.text());
        due(0, x.fault(1));
        // of each number the highest byte first
        x.feed(0x2020206e, 0x6f6f6e20, 0x3c3d3e3b, 0, 0);
        due(NONE, x.text());
        due(8, x.fault(1));
    }

    private static void end() {
        DuskTower x = new DuskTower();
        due(false, x.end(1));
        due(false, x.end(-1));
        due(true, x.end(0));
        fill(x, "noon 1=1;noon 1=2;");
        due(false, x.end(19));
        due(false, x.end(-1));
        due(false, x.end(Integer.MIN_VALUE));
        due(true, x.end(18));
        due(true, x.end(9));
        due(false, x.end(10));
        due(29, x.feed(0x20202020, 0x20202020, 0x20202020, 0x20202020, 0x20202020));
        due(1, x.text());
        due(false, x.end(1));
        due(NONE, x.noon());
    }

    private static void text() {
        DuskTower x = new DuskTower();
        due(0, x.text());
        due(2, vow(x, "noon 1=2;dusk 1=1;"));
        due(2, x.look(10));
        // with a fault the vow stays, and the tape is empty
        due(NONE, vow(x, "dusk 1=2"));
        due(false, x.end(1));
        due(2, x.look(10));
        due(0, x.noon());
        due(NONE, x.dusk());
        // what can be undone is not forgotten
        x.block(1, 1, 1, 0, 10);
        x.put(0, 0);
        due(1, vow(x, "dusk 1=2;"));
        due(1, x.look(9));
        due(1, x.look(10));
        due(1, x.look(7));
        due(0, x.dusk());
        due(2, x.look(7));
        due(0, x.text());
        due(0, x.look(10));
        due(NONE, x.dusk());
        due(16, vow(x, "noon 1=1;dusk 1=1;".repeat(8)));
        due(NONE, vow(x, "noon 1=1;".repeat(17)));
        due(16, x.look(10));
        due(1, vow(x, "noon" + " ".repeat(391) + "1=1;\n"));
        due(1, vow(x, "noon 0" + "+1".repeat(194) + "=194;"));
        due(1, vow(x, "noon 0=0" + " or1=1".repeat(65) + ";"));
        due(NONE, vow(x, ";".repeat(400)));
        due(NONE, vow(x, "noon " + "+".repeat(395)));
        due(1, vow(x, "noon" + "(".repeat(8) + "1=1" + ")".repeat(8) + "or" + "(".repeat(8) + "1=1" + ")".repeat(8) + ";"));
    }

    private static void fault() {
        DuskTower x = new DuskTower();
        due(NONE, x.fault(2));
        due(NONE, x.fault(-1));
        dueFault(0, NONE, "");
        dueFault(0, NONE, " \n ");
        dueFault(0, NONE, "noon height<1;");
        dueFault(1, 6, "noon  ");
        dueFault(1, 0, "noonx 1=1;");
        dueFault(1, 1, " Noon 1=1;");
        dueFault(1, 4, "noon\t1=1;");
        dueFault(1, 4, "noon" + (char) 233 + " 1=1;");
        dueFault(1, 0, "" + (char) 0);
        dueFault(1, 0, "height=1;");
        dueFault(1, 0, ";");
        dueFault(1, 5, "noon ;");
        dueFault(1, 6, "noon 1;");
        dueFault(1, 7, "noon 1=;");
        dueFault(1, 8, "noon 1=1");
        dueFault(1, 8, "noon 1=1=1;");
        dueFault(1, 8, "noon 1=1);");
        dueFault(1, 9, "noon (1=1;");
        dueFault(1, 7, "noon (1)=1;");
        dueFault(1, 5, "noon -1=1;");
        dueFault(1, 7, "noon 1+-1=1;");
        dueFault(1, 7, "noon 1/day=1;");
        dueFault(1, 7, "noon 1/;");
        dueFault(1, 7, "noon 1/=1;");
        dueFault(1, 7, "noon 1 1;");
        dueFault(1, 7, "noon 1 day=1;");
        dueFault(1, 0, "noonA 1=1;");
        dueFault(1, 0, "noonZ 1=1;");
        dueFault(1, 0, "noonz 1=1;");
        dueFault(1, 4, "noon[1=1;");
        dueFault(1, 4, "noon{1=1;");
        dueFault(1, 4, "noon@1=1;");
        dueFault(1, 4, "noon`1=1;");
        dueFault(1, 5, "noon :1=1;");
        dueFault(1, 9, "noon 1=1 1;");
        dueFault(1, 9, "noon 1=1 not 1=1;");
        dueFault(1, 12, "noon 1=1 or ;");
        dueFault(1, 9, "noon not ;");
        dueFault(1, 9, "noon 1=1 noon 1=1;");
        dueFault(1, 5, "noon 12345=1;");
        dueFault(1, 5, "noon 00000=1;");
        dueFault(1, 7, "noon 1=12345;");
        dueFault(1, 9, "noon 1=1;1");
        dueFault(0, NONE, "noon 1234/9999=0001;");
        dueFault(2, 7, "noon 1/0=1;");
        dueFault(2, 7, "noon 1/0000=1;");
        dueFault(1, 7, "noon 1/00000=1;");
        dueFault(2, 7, "noon 1/0");
        dueFault(1, 5, "noon ?1/0=1;");
        dueFault(0, NONE, "noon 0/1=0*0;");
        dueFault(0, NONE, "noon not not not not not not not not 1=1;");
        dueFault(3, 37, "noon not not not not not not not not not 1=1;");
        dueFault(3, 13, "noon (((((((((1=1)))))))));");
        dueFault(3, 21, "noon not(not(not(not(not(1=1)))));");
        // a not is closed behind its claim
        dueFault(0, NONE, "noon ((((((not 1=1 and not 1=1 and not (1=1) and not not 1=1))))));");
        dueFault(3, 144, "noon 1=1;".repeat(17));
        dueFault(3, 144, "noon 1=1;".repeat(16) + "dusk");
        dueFault(1, 144, "noon 1=1;".repeat(16) + "day");
        dueFault(0, NONE, "noon 1=1;".repeat(16) + "  ");
        // the latest text() alone
        vow(x, "noon");
        due(1, x.fault(0));
        x.columns(4);
        due(1, x.fault(0));
        vow(x, "noon 1=1;");
        due(0, x.fault(0));
        due(NONE, x.fault(1));
    }

    // ---- 15 .. 17 ----

    private static void plan() {
        DuskTower x = new DuskTower();
        due(NONE, x.plan(1, 0));
        x.block(1, 5, 4, 0, 14);
        x.block(1, 5, 5, 0, 11);
        x.block(1, 5, 5, 0, 30);
        x.block(2, 1, 5, 0, 10);
        due(NONE, x.plan(0, 0));
        due(NONE, x.plan(21, 0));
        due(NONE, x.plan(20, 0));
        // block 0 to column 4, 1 to column 1, 3 to column 0 cost nothing: the first
        due(1, x.plan(1, 0));
        due(0, x.plan(1, 1));
        due(0, x.plan(1, 10));
        due(4, x.plan(1, 20));
        // two high: 3 on column 0 for nothing, then 1 at the level above
        due(2, x.plan(2, 0));
        due(1, x.plan(2, 1));
        due(3, x.plan(2, 10));
        due(0, x.plan(2, 20));
        due(1, x.plan(2, 11));
        due(1, x.plan(2, 21));
        due(NONE, x.plan(2, 12));
        due(NONE, x.plan(2, 22));
        due(NONE, x.plan(2, 2));
        due(NONE, x.plan(2, 9));
        due(NONE, x.plan(2, 15));
        due(NONE, x.plan(2, 30));
        due(NONE, x.plan(2, -1));
        due(0, x.look(2));
        due(0, x.look(4));
        // three high: two that bear 3 and one more, as none bears two others alone
        due(4, x.plan(3, 0));
        due(NONE, x.plan(4, 0));
        due(NONE, x.plan(4, 1));
        due(NONE, x.plan(4, 10));
        x.put(1, 2);
        due(0, x.plan(1, 0));
        due(0, x.plan(1, 1));
        due(NONE, x.plan(1, 10));
        due(1, x.plan(2, 0));
        due(3, x.plan(2, 1));
        due(1, x.look(2));
        due(1, x.look(9));
        // seven in the yard, or six columns, are too many
        for (int i = 0; i < 3; i++) {
            x.block(3, 99, 0, 0, 10);
        }
        due(0, x.plan(1, 0));
        x.block(3, 99, 0, 0, 10);
        due(NONE, x.plan(1, 0));
        due(NONE, x.plan(2, 0));
        planEdges();
    }

    private static void planEdges() {
        DuskTower x = new DuskTower();
        x.columns(6);
        x.block(1, 1, 1, 0, 10);
        due(NONE, x.plan(1, 0));
        x.columns(2);
        for (int i = 0; i < 6; i++) {
            x.block(1, 1, 9, 0, 10);
        }
        due(5, x.plan(5, 0));
        due(10, x.plan(5, 1));
        for (int i = 0; i < 5; i++) {
            due(i, x.plan(5, 10 + i));
            due(0, x.plan(5, 20 + i));
        }
        due(NONE, x.plan(6, 0));
        x.put(0, 0);
        due(5, x.plan(6, 0));
        // twenty is a height like others
        x.columns(2);
        for (int i = 0; i < 20; i++) {
            x.block(1, 1, 99, 0, 10);
        }
        for (int i = 0; i < 15; i++) {
            due(i, x.put(i, 0));
        }
        due(5, x.plan(20, 0));
        due(NONE, x.plan(21, 0));
        x.undo();
        due(NONE, x.plan(20, 0));
        // a holy one bears nothing in a plan either
        x.columns(5);
        x.block(1, 1, 99, 4, 10);
        x.block(1, 1, 99, 4, 10);
        due(1, x.plan(1, 0));
        due(NONE, x.plan(2, 0));
        // two that bear one of length 2 from beside: three carries for two levels
        DuskTower y = new DuskTower();
        y.columns(3);
        y.block(1, 9, 2, 0, 11);
        y.block(2, 4, 0, 0, 10);
        y.block(1, 9, 2, 0, 12);
        due(3, y.plan(2, 0));
        due(2, y.plan(2, 1));
        due(0, y.plan(2, 10));
        due(1, y.plan(2, 20));
        due(2, y.plan(2, 11));
        due(2, y.plan(2, 21));
        due(1, y.plan(2, 12));
        due(1, y.plan(2, 22));
    }

    private static void down() {
        DuskTower x = new DuskTower();
        due(NONE, x.down(0));
        x.block(1, 1, 99, 0, 10);
        x.block(1, 1, 99, 0, 10);
        x.block(3, 1, 99, 0, 10);
        x.block(1, 1, 99, 0, 10);
        x.block(1, 1, 99, 0, 10);
        x.put(4, 1);
        x.put(3, 1);
        x.put(0, 0);
        x.put(2, 0);
        x.put(1, 4);
        int[] order = {1, 2, 0, 3, 4};
        for (int i = 0; i < 5; i++) {
            due(order[i], x.down(i));
        }
        due(NONE, x.down(5));
        due(NONE, x.down(6));
        due(NONE, x.down(-1));
        due(NONE, x.down(Integer.MIN_VALUE));
        due(NONE, x.down(Integer.MAX_VALUE));
        due(5, x.look(2));
        due(5, x.look(9));
    }

    private static void which() {
        DuskTower x = new DuskTower();
        x.block(1, 1, 9, 0, 10);
        x.block(1, 1, 9, 0, 12);
        x.block(1, 1, 9, 0, 14);
        x.block(2, 1, 9, 4, 12);
        x.block(1, 1, 9, 0, 9);
        due(NONE, x.which(0, 0));
        due(NONE, x.which(32, 0));
        due(NONE, x.which(-1, 0));
        due(NONE, x.which(Integer.MIN_VALUE, 0));
        due(1, x.which(1, 0));
        due(0, x.which(1, 10));
        due(0, x.which(1, 30));
        due(0, x.which(16, 0));
        due(NONE, x.which(16, 14));
        due(NONE, x.which(16, 34));
        // block 1 on column 2, or on block 0
        due(2, x.which(3, 0));
        due(0, x.which(3, 11));
        due(1, x.which(3, 31));
        due(NONE, x.which(3, 12));
        due(NONE, x.which(3, 32));
        due(NONE, x.which(3, 1));
        due(NONE, x.which(3, 9));
        due(NONE, x.which(3, 50));
        due(NONE, x.which(3, -10));
        // block 2 on column 4, on block 1 at column 2, or third at column 0
        due(4, x.which(7, 0));
        due(0, x.which(7, 12));
        due(2, x.which(7, 32));
        // a block of length 2 would not stand on block 0 alone
        due(1, x.which(9, 0));
        due(2, x.which(9, 13));
        // strengths as they are
        x.block(1, 10, 9, 0, 12);
        due(1, x.which(33, 0));
        due(2, x.which(33, 15));
        x.put(0, 4);
        due(NONE, x.which(3, 0));
        due(2, x.which(6, 0));
        x.take(0, 10);
        // six at most
        DuskTower y = new DuskTower();
        for (int i = 0; i < 7; i++) {
            y.block(1, 1, 99, 0, 10 + 2 * i);
        }
        due(NONE, y.which(127, 0));
        due(0, y.which(63, 10));
        due(true, y.which(63, 0) > 1);
        due(5, y.which(63, 35));
        // what stands in the tower is of no account
        y.put(6, 0);
        due(1, y.which(1, 0));
        due(0, y.which(1, 30));
    }

    // ---- 18 .. 23 ----

    private static void hand() {
        DuskTower x = new DuskTower();
        x.block(1, 50, 1, 0, 10);
        x.put(0, 0);
        due(NONE, x.of(0, 9));
        due(NONE, x.hand(0));
        due(NONE, x.hand(100));
        due(NONE, x.hand(-5));
        due(0, x.hand(1));
        due(1, x.hand(49));
        due(3, x.of(0, 9));
        due(2, x.hand(25));
        due(3, x.hand(25));
        due(3, x.of(0, 9));
        due(4, x.hand(99));
        due(16, x.of(0, 9));
        due(5, x.hand(50));
        due(16, x.of(0, 9));
        due(6, x.hand(2));
        due(7, x.hand(2));
        due(NONE, x.hand(2));
        due(8, x.look(8));
        due(1, x.look(9));
    }

    private static void quarrel() {
        DuskTower x = new DuskTower();
        x.block(1, 50, 1, 0, 10);
        due(false, x.quarrel(0, 1, true));
        x.hand(30);
        x.hand(30);
        x.hand(20);
        due(false, x.quarrel(0, 0, true));
        due(false, x.quarrel(0, 0, false));
        due(false, x.quarrel(0, 3, true));
        due(false, x.quarrel(-1, 0, true));
        due(false, x.quarrel(3, 0, false));
        due(3, x.of(0, 9));
        due(true, x.quarrel(1, 0, true));
        due(5, x.of(0, 9));
        due(true, x.quarrel(0, 2, true));
        due(6, x.of(0, 9));
        due(true, x.quarrel(2, 1, true));
        due(NONE, x.of(0, 9));
        due(true, x.quarrel(0, 1, false));
        due(3, x.of(0, 9));
        x.put(0, 0);
        due(true, x.quarrel(0, 1, false));
        due(1, x.look(9));
    }

    private static void wind() {
        DuskTower x = new DuskTower();
        due(false, x.wind(-1, 1, 1));
        due(false, x.wind(8, 1, 1));
        due(false, x.wind(0, 0, 1));
        due(false, x.wind(0, 9, 1));
        due(false, x.wind(0, 1, -1));
        due(false, x.wind(0, 1, 11));
        due(100000000, x.bet(8, 8));
        for (int i = 0; i < 8; i++) {
            due(true, x.wind(i, i + 1, 9));
        }
        due(1, x.bet(8, 8));
        due(true, x.wind(7, 8, 0));
        due(10, x.bet(8, 8));
        due(true, x.wind(0, 1, 10));
        due(0, x.bet(8, 8));
    }

    private static void pay() {
        DuskTower x = new DuskTower();
        due(false, x.pay(-1, 1));
        due(false, x.pay(9, 1));
        due(false, x.pay(0, -1));
        due(false, x.pay(0, 1000));
        due(true, x.pay(0, 999));
        due(true, x.pay(8, 7));
        due(999, x.worth(8, 8, 0, 0));
        due(7, x.worth(8, 8, 8, 0));
        due(0, x.worth(8, 8, 4, 0));
        due(true, x.pay(0, 0));
        due(0, x.worth(8, 8, 0, 0));
    }

    private static void worth() {
        DuskTower x = new DuskTower();
        x.pay(0, 2);
        x.pay(1, 5);
        x.pay(2, 10);
        x.pay(8, 900);
        x.wind(0, 1, 4);
        x.wind(1, 2, 5);
        due(NONE, x.worth(0, 0, 0, 0));
        due(NONE, x.worth(9, 0, 0, 0));
        due(NONE, x.worth(2, -1, 0, 0));
        due(NONE, x.worth(2, 3, 0, 0));
        due(NONE, x.worth(2, 0, -1, 0));
        due(NONE, x.worth(2, 0, 9, 0));
        due(NONE, x.worth(2, 0, 0, 2));
        due(NONE, x.worth(2, 0, 0, -1));
        // hour 1, height 1: to stop 50, to go on 5 * 2 + 5 * 10 = 60
        due(60, x.worth(2, 1, 1, 0));
        due(1, x.worth(2, 1, 1, 1));
        // hour 0, height 0: to stop 200, to go on 4 * 20 + 6 * 60 = 440
        due(440, x.worth(2, 0, 0, 0));
        due(1, x.worth(2, 0, 0, 1));
        // as much either way: one does not go
        x.pay(1, 6);
        due(60, x.worth(2, 1, 1, 0));
        due(0, x.worth(2, 1, 1, 1));
        due(6, x.worth(2, 2, 1, 0));
        due(0, x.worth(2, 2, 1, 1));
        // at 8 one must stop, at 7 one goes
        due(90000, x.worth(2, 0, 8, 0));
        due(0, x.worth(2, 0, 8, 1));
        due(90000, x.worth(2, 0, 7, 0));
        due(1, x.worth(2, 0, 7, 1));
        due(1, x.worth(8, 7, 7, 1));
        due(9000, x.worth(8, 7, 7, 0));
        x.pay(0, 999);
        due(99900000000L, x.worth(8, 0, 0, 0));
    }

    private static void bet() {
        DuskTower x = new DuskTower();
        x.wind(0, 1, 3);
        x.wind(1, 2, 5);
        x.wind(1, 1, 10);
        x.wind(2, 3, 1);
        due(NONE, x.bet(0, 1));
        due(NONE, x.bet(9, 1));
        due(NONE, x.bet(1, -1));
        due(NONE, x.bet(1, 9));
        due(7, x.bet(1, 1));
        due(35, x.bet(2, 2));
        due(35, x.bet(2, 1));
        due(315, x.bet(3, 3));
        due(1000, x.bet(3, 0));
        due(0, x.bet(3, 4));
        due(0, x.bet(3, 8));
        due(31500000, x.bet(8, 1));
    }

    // ---- 24 .. 26 ----

    private static void undo() {
        DuskTower x = new DuskTower();
        x.block(1, 1, 99, 0, 20);
        x.block(2, 1, 99, 0, 22);
        x.block(3, 1, 99, 0, 24);
        due(false, x.undo());
        x.put(2, 1);
        x.put(1, 2);
        x.take(1, 3);
        due(3, x.look(9));
        due(NONE, x.put(1, 4));
        due(3, x.look(9));
        int cost = x.look(5);
        due(true, x.undo());
        due(2, x.of(1, 5));
        due(1, x.of(1, 6));
        due(NONE, x.of(1, 4));
        due(2, x.look(4));
        due(cost - 10, x.look(5));
        due(1, x.of(2, 7));
        due(true, x.undo());
        due(22, x.of(1, 4));
        due(1, x.look(4));
        due(13, x.look(5));
        due(true, x.undo());
        due(0, x.look(5));
        due(0, x.look(4));
        due(24, x.of(2, 4));
        due(0, x.height(NONE));
        due(false, x.undo());
        // twelve are kept
        for (int i = 0; i < 7; i++) {
            x.put(0, 0);
            x.take(0, i);
        }
        due(12, x.look(9));
        for (int i = 0; i < 12; i++) {
            due(true, x.undo());
        }
        due(false, x.undo());
        due(0, x.of(0, 4));
        due(2, x.look(4));
        due(20, x.look(5));
        undoForgotten();
    }

    private static void undoForgotten() {
        DuskTower x = new DuskTower();
        x.block(1, 1, 99, 0, 20);
        x.put(0, 0);
        x.hand(5);
        x.hand(5);
        x.quarrel(0, 1, true);
        x.wind(0, 1, 1);
        x.pay(1, 1);
        vow(x, "noon 1=1;");
        x.image(true);
        x.columns(1);
        due(1, x.look(9));
        x.noon();
        due(0, x.look(9));
        x.take(0, 5);
        x.noon();
        due(1, x.look(9));
        x.dusk();
        due(0, x.look(9));
        x.put(0, 1);
        x.block(1, 1, 1, 0, 0);
        due(false, x.undo());
        x.take(0, 5);
        x.image(false);
        due(false, x.undo());
        x.take(0, 5);
        x.columns(3);
        due(false, x.undo());
    }

    private static void image() {
        DuskTower x = new DuskTower();
        due(false, x.image(false));
        x.columns(4);
        due(false, x.image(false));
        x.block(1, 20, 99, 0, 20);
        x.block(2, 1, 99, 0, 22);
        x.hand(15);
        x.hand(15);
        x.pay(1, 9);
        x.wind(0, 1, 3);
        vow(x, "noon height=2;dusk carries=2;");
        x.put(0, 1);
        due(0, x.noon());
        x.take(0, 20);
        x.put(0, 2);
        due(true, x.image(true));
        due(2, x.look(9));
        due(true, x.undo());
        for (int turn = 0; turn < 2; turn++) {
            due(turn == 0 ? NONE : 1, x.dusk());
            x.quarrel(0, 1, true);
            x.hand(9);
            x.pay(1, 0);
            x.wind(0, 1, 0);
            vow(x, "");
            fill(x, "noon 1");
            x.columns(3);
            x.put(9, 9);
            due(true, x.image(false));
            due(1, x.refused(0));
            due(true, x.end(6));
            dueLooks(x, 4, 2, 1, 0, 3, 26, 1, 1, 2, 0, 2);
            due(-2, x.noon());
            due(2, x.of(0, 5));
            due(3, x.of(0, 9));
            due(9, x.worth(1, 1, 1, 0));
            due(7, x.bet(1, 1));
            due(false, x.undo());
            due(NONE, x.text());
        }
        x.quarrel(0, 1, true);
        due(true, x.take(0, 4));
        due(true, x.image(true));
        x.quarrel(0, 1, false);
        x.dusk();
        due(true, x.image(false));
        due(4, x.of(0, 4));
        due(4, x.look(4));
        due(NONE, x.of(0, 9));
    }

    private static void look() {
        DuskTower x = new DuskTower();
        due(NONE, x.look(-1));
        due(NONE, x.look(11));
        due(NONE, x.look(Integer.MIN_VALUE));
        x.columns(6);
        vow(x, "noon 1=2;noon 1=1;dusk 1=1;");
        x.block(1, 1, 9, 0, 10);
        x.block(1, 1, 9, 0, 11);
        x.block(1, 1, 9, 0, 12);
        x.hand(4);
        x.noon();
        x.dusk();
        x.put(0, 0);
        x.put(1, 0);
        x.noon();
        x.take(1, 10);
        dueLooks(x, 6, 3, 1, 1, 3, 3, 2, 2, 1, 1, 3);
    }
}
