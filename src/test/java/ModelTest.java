import java.util.Random;

/** Runs of calls, the same ones each time, on the class and on the model beside it: all answers must be alike. */
public final class ModelTest {
    private static final int RUNS = Integer.getInteger("runs", 1500);
    private static int wrong = 0;

    private final Random random;
    private final DuskTower x = new DuskTower();
    private final Model m = new Model();
    private final StringBuilder calls = new StringBuilder();
    private boolean failed = false;
    private int w = 5;
    private int blocks = 0;

    private ModelTest(long seed) {
        random = new Random(seed);
    }

    public static void main(String[] args) {
        for (int seed = 1; seed <= RUNS && wrong == 0; seed++) {
            new ModelTest(seed).run();
        }
        System.out.println(wrong == 0 ? "alike in " + RUNS + " runs" : "not alike");
        System.exit(wrong == 0 ? 0 : 1);
    }

    private void due(String call, long got, long want) {
        if (failed) {
            return;
        }
        calls.append(call).append(" = ").append(got).append('\n');
        if (got != want) {
            failed = true;
            wrong++;
            System.out.println(calls + "due is " + want);
        }
    }

    private static long number(boolean b) {
        return b ? 1 : 0;
    }

    private int any(int from, int to) {
        return from + random.nextInt(to - from + 1);
    }

    /** Mostly inside, now and then just or far outside. */
    private int about(int from, int to) {
        int dice = random.nextInt(40);
        if (dice == 0) {
            return from - 1;
        }
        if (dice == 1) {
            return to + 1;
        }
        if (dice == 2) {
            return random.nextBoolean() ? random.nextInt() : random.nextBoolean() ? Integer.MIN_VALUE : Integer.MAX_VALUE;
        }
        return any(from, Math.max(from, to));
    }

    private void run() {
        int kinds = any(0, 3);
        int strongest = new int[] {20, 60, 200, 999}[any(0, 3)];
        int yard = any(0, 3) == 0 ? any(8, 20) : any(1, 7);
        int length = any(1, 3);
        if (any(0, 2) > 0) {
            columns(any(2, any(2, 8)));
        }
        for (int i = 0; i < yard; i++) {
            block(length, kinds, strongest);
        }
        for (int i = 0; i < 110 && !failed; i++) {
            step(length, kinds, strongest);
        }
    }

    private void step(int length, int kinds, int strongest) {
        int dice = any(0, 99);
        if (dice < 38) {
            put();
        } else if (dice < 48) {
            take();
        } else if (dice < 54) {
            due("undo()", number(x.undo()), number(m.undo()));
        } else if (dice < 56) {
            block(length, kinds, strongest);
        } else if (dice < 60) {
            due("noon()", x.noon(), m.noon());
        } else if (dice < 63) {
            due("dusk()", x.dusk(), m.dusk());
        } else if (dice < 68) {
            vow();
        } else if (dice < 71) {
            which();
        } else if (dice < 73) {
            plan();
        } else if (dice < 76) {
            crew();
        } else if (dice < 85) {
            sky();
        } else if (dice < 88) {
            boolean taken = random.nextBoolean();
            due("image(" + taken + ")", number(x.image(taken)), number(m.image(taken)));
            blocks = Math.max(0, x.look(1));
            w = x.look(0);
        } else if (dice == 88 && any(0, 4) == 0) {
            columns(about(2, 8));
        } else {
            lookAll();
        }
        due("refused(0)", x.refused(0), m.refused(0));
        due("refused(1)", x.refused(1), m.refused(1));
    }

    private void columns(int n) {
        due("columns(" + n + ")", number(x.columns(n)), number(m.columns(n)));
        w = x.look(0);
        blocks = x.look(1);
    }

    private void block(int longest, int kinds, int strongest) {
        int length = any(0, 9) == 0 ? about(1, 3) : any(1, longest);
        int weight = any(0, 4) == 0 ? about(1, 99) : about(1, 9);
        int strength = any(0, 4) == 0 ? about(0, 999) : any(0, strongest);
        int kind = kinds == 0 ? 0 : kinds == 1 && any(0, 1) == 0 ? 0 : about(0, kinds == 3 ? 3 : 7);
        int place = any(0, 4) == 0 ? about(0, 59) : any(8, 22);
        due("block(" + length + ", " + weight + ", " + strength + ", " + kind + ", " + place + ")",
                x.block(length, weight, strength, kind, place), m.block(length, weight, strength, kind, place));
        blocks = x.look(1);
    }

    private void put() {
        int b = about(0, blocks - 1);
        for (int i = 0; i < 5 && m.of(b, 4) < 0; i++) {
            b = any(0, Math.max(0, blocks - 1));
        }
        int c = any(0, 3) == 0 ? about(0, w - 1) : any(0, Math.max(0, Math.min(2, w - Math.max(1, m.of(b, 0)))));
        due("put(" + b + ", " + c + ")", x.put(b, c), m.put(b, c));
    }

    private void take() {
        int b = any(0, 3) == 0 ? about(0, blocks - 1) : m.down(any(0, 2));
        int place = about(0, 59);
        due("take(" + b + ", " + place + ")", number(x.take(b, place)), number(m.take(b, place)));
    }

    private void which() {
        int set = 0;
        for (int i = 0; i < blocks; i++) {
            set |= any(0, 2) > 0 && m.of(i, 4) != -1 ? 1 << i : 0;
        }
        while (Integer.bitCount(set) > 6 && any(0, 9) > 0) {
            set &= set - 1;
        }
        if (any(0, 19) == 0) {
            set ^= 1 << any(0, 31);
        }
        due("which(" + set + ", 0)", x.which(set, 0), m.which(set, 0));
        for (int i = 0; i < 4; i++) {
            int what = any(0, 9) == 0 ? about(-1, 51) : any(0, 1) * 20 + 10 + any(0, Math.max(0, blocks - 1));
            due("which(" + set + ", " + what + ")", x.which(set, what), m.which(set, what));
        }
    }

    /** The model tries everything, so only where that is not too much. */
    private void plan() {
        int yard = blocks - m.look(2);
        if (yard > 4 && yard < 7 && w > 2 && w < 6 && any(0, w == 3 ? 4 : 29) > 0) {
            return;
        }
        int height = any(0, 9) == 0 ? about(1, 20) : m.height(-1) + any(0, any(3, 5));
        if (height > m.height(-1) + 5 && yard > 3) {
            return;
        }
        for (int what : new int[] {0, 1, 10, 20, 12, 22, any(0, 9) == 0 ? about(0, 31) : 11}) {
            due("plan(" + height + ", " + what + ")", x.plan(height, what), m.plan(height, what));
        }
    }

    private void crew() {
        int arms = any(0, 2) == 0 ? about(1, 99) : any(1, 8);
        due("hand(" + arms + ")", x.hand(arms), m.hand(arms));
        int a = about(0, 7);
        int b = about(0, 7);
        boolean are = any(0, 2) > 0;
        due("quarrel(" + a + ", " + b + ", " + are + ")", number(x.quarrel(a, b, are)), number(m.quarrel(a, b, are)));
    }

    private void sky() {
        for (int i = 0; i < 4; i++) {
            int hour = about(0, 7);
            int height = about(1, 8);
            int chance = about(0, 10);
            due("wind(" + hour + ", " + height + ", " + chance + ")", number(x.wind(hour, height, chance)),
                    number(m.wind(hour, height, chance)));
            int at = about(0, 8);
            int v = any(0, 3) == 0 ? about(0, 999) : any(0, at < 0 || at > 8 ? 9 : at * 10);
            due("pay(" + at + ", " + v + ")", number(x.pay(at, v)), number(m.pay(at, v)));
        }
        for (int i = 0; i < 3; i++) {
            int n = about(1, 8);
            int h = about(0, n < 0 || n > 9 ? 8 : n);
            int height = about(0, 8);
            int what = about(0, 1);
            due("worth(" + n + ", " + h + ", " + height + ", " + what + ")", x.worth(n, h, height, what),
                    m.worth(n, h, height, what));
            int k = about(0, 8);
            due("bet(" + n + ", " + k + ")", x.bet(n, k), m.bet(n, k));
        }
    }

    private void lookAll() {
        for (int i = -1; i <= 11; i++) {
            due("look(" + i + ")", x.look(i), m.look(i));
        }
        for (int i = 0; i < 4; i++) {
            int b = about(0, blocks - 1);
            int what = about(0, 9);
            due("of(" + b + ", " + what + ")", x.of(b, what), m.of(b, what));
            due("of(" + b + ", 7)", x.of(b, 7), m.of(b, 7));
            int c = about(-1, w - 1);
            due("height(" + c + ")", x.height(c), m.height(c));
            int turn = about(0, 6);
            due("down(" + turn + ")", x.down(turn), m.down(turn));
        }
    }

    // ---- texts ----

    private void vow() {
        StringBuilder text = new StringBuilder();
        int lines = any(0, 9) == 0 ? any(14, 18) : any(0, 4);
        for (int i = 0; i < lines; i++) {
            text.append(random.nextBoolean() ? "noon" : "dusk").append(blank(true));
            either(text, any(0, lines > 9 ? 0 : 2));
            text.append(';').append(blank(false));
        }
        if (any(0, 9) == 0) {
            text.append("dusk ").append("not (".repeat(any(3, 5))).append("1=1");
        }
        for (int i = any(0, 5); i > 3 && text.length() > 0; i--) {
            spoil(text);
        }
        if (text.length() > 400) {
            text.setLength(400);
        }
        feed(text);
        due("text()", x.text(), m.text());
        for (int i = -1; i <= 2; i++) {
            due("fault(" + i + ")", x.fault(i), m.fault(i));
        }
        due("look(10)", x.look(10), m.look(10));
    }

    private void feed(CharSequence text) {
        for (int i = 0; i < text.length() || i == 0 && any(0, 3) == 0; i += 20) {
            int[] n = new int[5];
            for (int j = 0; j < 20; j++) {
                int sign = i + j < text.length() ? text.charAt(i + j) : any(0, 255);
                n[j / 4] |= sign << 24 - 8 * (j % 4);
            }
            due("feed(" + n[0] + ", " + n[1] + ", " + n[2] + ", " + n[3] + ", " + n[4] + ")",
                    x.feed(n[0], n[1], n[2], n[3], n[4]), m.feed(n[0], n[1], n[2], n[3], n[4]));
        }
        int odd = about(0, 400);
        if (any(0, 19) == 0) {
            due("end(" + odd + ")", number(x.end(odd)), number(m.end(odd)));
        }
        due("end(" + text.length() + ")", number(x.end(text.length())), number(m.end(text.length())));
    }

    private String blank(boolean must) {
        int dice = any(0, 9);
        return dice == 0 ? "\n" : dice == 1 ? "  " : must || dice < 5 ? " " : "";
    }

    private void either(StringBuilder text, int depth) {
        for (int i = any(0, 5); i >= 0; i = i > 3 ? i - 4 : -1) {
            claim(text, depth);
            if (i > 3) {
                text.append(blank(true)).append(random.nextBoolean() ? "and" : "or").append(blank(true));
            }
        }
    }

    private void claim(StringBuilder text, int depth) {
        int dice = depth > 0 ? any(0, 3) : 3;
        if (dice == 0) {
            text.append("not").append(blank(true));
            claim(text, depth - 1);
        } else if (dice == 1) {
            text.append('(').append(blank(false));
            either(text, depth - 1);
            text.append(')').append(blank(false));
        } else {
            sum(text);
            text.append("<=>".charAt(any(0, 2))).append(blank(false));
            sum(text);
        }
    }

    private void sum(StringBuilder text) {
        unit(text);
        for (int i = any(-1, 2); i > 0; i--) {
            text.append(blank(false));
            int dice = any(0, 4);
            if (dice == 0) {
                text.append('/').append(blank(false)).append(any(0, 30) == 0 ? any(0, 1) * 3 : any(1, 9));
            } else {
                text.append("+-*".charAt(any(0, 2))).append(blank(false));
                unit(text);
            }
        }
        text.append(blank(false));
    }

    private void unit(StringBuilder text) {
        String[] facts = {"height", "blocks", "carries", "cost", "holy", "seen", "day"};
        int dice = any(0, 19);
        text.append(dice < 9 ? facts[any(0, 6)] : dice < 18 ? "" + any(0, 4) : dice < 19 ? "9999*9999" : "0" + any(0, 999));
    }

    private void spoil(StringBuilder text) {
        int at = any(0, text.length() - 1);
        String signs = ";+-*/()<=>aZ09 \n\t?";
        char sign = any(0, 9) == 0 ? (char) any(0, 255) : signs.charAt(any(0, signs.length() - 1));
        int dice = any(0, 3);
        if (dice == 0) {
            text.deleteCharAt(at);
        } else if (dice == 1) {
            text.setCharAt(at, sign);
        } else if (dice == 2) {
            text.insert(at, sign);
        } else {
            text.setLength(at);
        }
    }
}
