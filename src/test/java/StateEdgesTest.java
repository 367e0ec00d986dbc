/** The sentences on what can be undone, on the image and on looking that name a boundary case: promises 24 to 26. */
public final class StateEdgesTest extends Check {
    private StateEdgesTest() {
    }

    public static void main(String[] args) {
        nothingToUndo();
        undone();
        undoneInTower();
        twelve();
        forgotten();
        notForgotten();
        noImage();
        imageKeeps();
        imageLeaves();
        imageAgain();
        imageUndone();
        looks();
        manyCalls();
        finish("each edge of what is kept holds");
    }

    private static void nothingToUndo() {
        says("UNDO: true; false if there is nothing.");
        DuskTower x = withPlain(1);
        due(false, x.undo());
        x.put(5, 5);
        x.take(0, 5);
        String was = sight(x);
        due(false, x.undo());
        dueSame(was, x);
        x.put(0, 0);
        due(true, x.undo());
        due(false, x.undo());
        dueSame(was, x);
    }

    private static void undone() {
        says("the latest CARRY not undone yet goes back (COST, too)");
        DuskTower x = withPlain(2);
        x.block(3, 2, 9, 0, 30);
        String[] was = new String[4];
        was[0] = sight(x);
        x.put(0, 1);
        was[1] = sight(x);
        x.put(2, 0);
        was[2] = sight(x);
        x.take(2, 59);
        due(0 + 1 + 20 + 1 + 49 + 1, x.look(5));
        due(true, x.undo());
        dueSame(was[2], x);
        due(true, x.undo());
        dueSame(was[1], x);
        // a carry anew, and that one goes back ahead of the older one
        x.put(1, 4);
        due(2, x.look(9));
        due(true, x.undo());
        dueSame(was[1], x);
        due(true, x.undo());
        dueSame(was[0], x);
        due(false, x.undo());
    }

    private static void undoneInTower() {
        says("the latest CARRY not undone yet goes back (COST, too)");
        // a block goes back to the place from which it came the last time, not to its first one
        DuskTower x = withPlain(2);
        x.put(0, 0);
        x.put(1, 0);
        x.take(1, 40);
        x.put(1, 3);
        due(true, x.undo());
        due(40, x.of(1, 4));
        due(true, x.undo());
        due(0, x.of(1, 5));
        due(1, x.of(1, 6));
        due(1, x.of(0, 7));
        due(2, x.height(0));
        due(0, x.height(3));
        due(false, x.take(0, 10));
        due(2, x.look(4));
    }

    private static void twelve() {
        says("12 are kept");
        DuskTower x = withPlain(20);
        for (int i = 0; i < 20; i++) {
            due(i, x.put(i, 0));
            due(Math.min(12, i + 1), x.look(9));
        }
        for (int i = 19; i >= 8; i--) {
            due(i - 7, x.look(9));
            due(true, x.undo());
            due(i, x.look(2));
            due(10, x.of(i, 4));
            due(i * (i - 1) / 2, x.look(5));
        }
        due(0, x.look(9));
        due(false, x.undo());
        due(8, x.height(NONE));
        // the room of those undone is free again
        for (int i = 8; i < 20; i++) {
            due(i, x.put(i, 0));
        }
        due(12, x.look(9));
        due(true, x.undo());
        due(true, x.undo());
        due(18, x.put(18, 0));
        due(11, x.look(9));
    }

    private static DuskTower carried() {
        DuskTower x = withPlain(2);
        x.put(0, 0);
        x.put(1, 0);
        due(2, x.look(9));
        return x;
    }

    private static void dueForgotten(DuskTower x) {
        due(0, x.look(9));
        due(false, x.undo());
    }

    private static void forgotten() {
        says("noon(), dusk() and whatever is told but THE VOW, HANDS, WINDS, PAY forget them");
        DuskTower x = carried();
        x.noon();
        dueForgotten(x);
        due(2, x.look(2));
        x = carried();
        x.dusk();
        dueForgotten(x);
        due(0, x.look(2));
        x = carried();
        due(2, plain(x, 1));
        dueForgotten(x);
        due(2, x.look(2));
        x = carried();
        due(true, x.columns(5));
        dueForgotten(x);
        due(0, x.look(1));
    }

    private static void notForgotten() {
        says("noon(), dusk() and whatever is told but THE VOW, HANDS, WINDS, PAY forget them");
        DuskTower x = carried();
        due(1, vow(x, "noon 1=2;"));
        due(NONE, vow(x, "noon"));
        due(0, x.text());
        due(0, x.hand(3));
        due(1, x.hand(3));
        due(true, x.quarrel(0, 1, true));
        due(true, x.wind(0, 1, 3));
        due(true, x.pay(0, 3));
        due(2, x.look(9));
        // what can't be is not told
        due(NONE, x.block(0, 1, 1, 0, 10));
        due(NONE, x.block(1, 1, 1, 0, 60));
        due(false, x.columns(9));
        due(NONE, x.put(0, 0));
        due(false, x.take(0, 0));
        due(false, x.image(false));
        due(2, x.look(9));
        // what is asked neither
        x.plan(3, 0);
        x.which(1, 0);
        x.down(0);
        x.of(0, 9);
        x.worth(1, 0, 0, 0);
        x.bet(1, 1);
        due(2, x.look(9));
        due(true, x.undo());
        due(true, x.undo());
        // a second noon does nothing
        x.noon();
        x.put(0, 0);
        due(NONE - 1, x.noon());
        due(true, x.undo());
    }

    private static void noImage() {
        says("THE IMAGE is taken (true), or gone back to (false): true; false if there is none.");
        DuskTower x = carried();
        String was = sight(x);
        due(false, x.image(false));
        dueSame(was, x);
        x.columns(5);
        due(false, x.image(false));
        due(true, x.image(true));
        due(true, x.image(false));
        // another object's image is none of this one's
        due(false, new DuskTower().image(false));
    }

    private static void change(DuskTower x) {
        x.take(1, 50);
        x.put(2, 3);
        x.noon();
        x.dusk();
        plain(x, 1);
        x.hand(44);
        x.quarrel(0, 1, false);
        x.pay(1, 0);
        x.wind(0, 1, 9);
        vow(x, "dusk 1=2;");
        x.dusk();
    }

    private static void imageKeeps() {
        says("THE IMAGE: all that is and was told but the TAPE, fault(), refused() and what can be undone (nothing then),"
                + " as it was when it was taken; gone back to it may be more than once.");
        DuskTower x = new DuskTower();
        x.columns(6);
        x.block(1, 50, 99, 0, 12);
        x.block(2, 5, 99, 1, 13);
        x.block(3, 5, 99, 2, 14);
        x.hand(30);
        x.hand(30);
        x.quarrel(0, 1, true);
        x.pay(1, 9);
        x.wind(0, 1, 3);
        vow(x, "noon day=0;noon height<1;");
        x.dusk();
        x.put(2, 0);
        due(0, x.noon());
        x.put(1, 0);
        due(true, x.image(true));
        x.noon();
        due(true, x.image(false));
        String was = sight(x);
        for (int turn = 0; turn < 2; turn++) {
            change(x);
            if (turn == 1) {
                x.columns(2);
                x.hand(1);
                x.block(1, 1, 1, 0, 1);
                x.put(0, 0);
            }
            due(true, x.image(false));
            dueSame(was, x);
        }
        // and all goes on from there
        due(NONE - 1, x.noon());
        due(NONE, x.dusk());
        due(0, x.noon());
        due(2, x.look(3));
        due(2, x.look(7));
        due(98, x.of(1, 2));
        due(NONE, x.of(0, 9));
        due(1, x.of(1, 9));
        due(true, x.quarrel(0, 1, false));
        due(3, x.of(0, 9));
        due(3, x.block(1, 1, 1, 0, 10));
    }

    private static void imageLeaves() {
        says("but the TAPE, fault(), refused() and what can be undone (nothing then)");
        DuskTower x = new DuskTower();
        x.block(1, 5, 4, 0, 10);
        x.block(1, 5, 4, 0, 10);
        x.put(0, 0);
        vow(x, "noon 1=1;");
        fill(x, "dusk 1=1;");
        x.image(true);
        // the tape that was there is not there any more
        due(1, x.text());
        due(NONE, vow(x, "dusk 1/0=1;"));
        due(NONE, x.put(1, 0));
        due(3, x.refused(0));
        x.put(1, 1);
        x.take(1, 3);
        x.put(1, 0);
        due(3, x.refused(0));
        fill(x, "noon 1=2;noon 1=2;");
        due(true, x.image(false));
        due(3, x.refused(0));
        due(0, x.refused(1));
        due(2, x.fault(0));
        due(7, x.fault(1));
        due(0, x.look(9));
        due(false, x.undo());
        due(1, x.look(10));
        due(false, x.end(19));
        due(2, x.text());
        due(0, x.fault(0));
    }

    private static void imageAgain() {
        says("as it was when it was taken");
        DuskTower x = withPlain(2);
        x.image(true);
        x.put(0, 0);
        x.image(true);
        x.put(1, 0);
        due(true, x.image(false));
        due(1, x.look(2));
        x.dusk();
        due(true, x.image(false));
        due(1, x.look(2));
        due(0, x.look(3));
        // what is done behind it does not reach into it, nor the other way
        due(true, x.take(0, 30));
        due(true, x.image(false));
        due(NONE, x.of(0, 4));
        due(0, x.of(0, 5));
        x.columns(3);
        x.image(true);
        due(true, x.image(false));
        due(3, x.look(0));
        due(0, x.look(1));
    }

    private static void imageUndone() {
        says("UNDO: the latest CARRY not undone yet goes back");
        // to take an image is to tell nothing
        DuskTower x = carried();
        x.image(true);
        due(2, x.look(9));
        due(true, x.undo());
        due(1, x.look(2));
        due(true, x.image(false));
        due(2, x.look(2));
        due(2, x.look(4));
        dueForgotten(x);
    }

    private static void looks() {
        says("9 what can be undone, 10 lines of THE VOW. NONE for another what.");
        DuskTower x = withPlain(3);
        for (int bad : new int[] {-1, -2, 11, 12, 100, Integer.MIN_VALUE, Integer.MAX_VALUE}) {
            due(NONE, x.look(bad));
        }
        x.columns(7);
        for (int i = 0; i < 4; i++) {
            plain(x, 1);
        }
        vow(x, "noon 1=2;dusk 1=2;dusk 1=2;noon 1=2;noon 1=2;");
        x.dusk();
        x.dusk();
        x.put(0, 0);
        x.put(1, 0);
        x.put(2, 0);
        x.noon();
        x.take(2, 10);
        for (int i = 0; i < 8; i++) {
            x.hand(9);
        }
        dueLooks(x, 7, 4, 2, 2, 4, 5, 3, 3, 8, 1, 5, NONE);
    }

    private static void manyCalls() {
        says("An object is used for at most 512 calls after it has been made");
        DuskTower x = withPlain(1);
        int cost = 0;
        for (int i = 0; i < 250; i++) {
            due(0, x.put(0, 1));
            due(true, x.take(0, 59));
            cost += (i == 0 ? 1 : 48) + 48;
        }
        due(500, x.look(4));
        due(cost, x.look(5));
        due(12, x.look(9));
        due(true, x.undo());
        due(499, x.look(4));
        due(cost - 48, x.look(5));
        due(1, x.of(0, 5));
    }
}
