import java.util.ArrayList;
import java.util.Arrays;
import java.util.List;

/**
 * The document once more, as plainly and slowly as can be and by other ways than the class goes: whole copies instead of
 * steps back, every sequence of carries instead of a search that cuts, a table of states instead of a descent.
 */
final class Model {
    static final int NONE = -1;

    /** A block; its column is NONE in the yard. */
    static final class Block {
        int length;
        int weight;
        int strength;
        int kind;
        int place;
        int column = NONE;
        int level = NONE;

        Block copy() {
            Block b = new Block();
            b.length = length;
            b.weight = weight;
            b.strength = strength;
            b.kind = kind;
            b.place = place;
            b.column = column;
            b.level = level;
            return b;
        }

        boolean covers(int c) {
            return column != NONE && c >= column && c < column + length;
        }
    }

    /** All that an image keeps. */
    static final class State {
        int w = 5;
        List<Block> blocks = new ArrayList<>();
        int day;
        int carries;
        int cost;
        int noon;
        boolean wasNoon;
        int broken;
        List<List<String>> vow = new ArrayList<>();
        List<Integer> hands = new ArrayList<>();
        boolean[][] quarrels = new boolean[8][8];
        int[][] winds = new int[8][9];
        int[] pays = new int[9];

        State copy() {
            State s = new State();
            s.w = w;
            for (Block b : blocks) {
                s.blocks.add(b.copy());
            }
            s.day = day;
            s.carries = carries;
            s.cost = cost;
            s.noon = noon;
            s.wasNoon = wasNoon;
            s.broken = broken;
            s.vow = new ArrayList<>(vow);
            s.hands = new ArrayList<>(hands);
            for (int i = 0; i < 8; i++) {
                s.quarrels[i] = quarrels[i].clone();
                s.winds[i] = winds[i].clone();
            }
            s.pays = pays.clone();
            return s;
        }
    }

    private State s = new State();
    private State image = null;
    private final List<State> before = new ArrayList<>();
    private final List<Integer> tape = new ArrayList<>();
    private int fault = 0;
    private int faultPlace = NONE;
    private int why = 0;
    private int overloaded = NONE;

    boolean columns(int w) {
        if (w < 2 || w > 8) {
            return false;
        }
        s = new State();
        s.w = w;
        before.clear();
        return true;
    }

    int block(int length, int weight, int strength, int kind, int place) {
        boolean can = length >= 1 && length <= 3 && length <= s.w && weight >= 1 && weight <= 99 && strength >= 0
                && strength <= 999 && kind >= 0 && kind <= 7 && place >= 0 && place <= 59 && s.blocks.size() < 20;
        if (!can) {
            return NONE;
        }
        Block b = new Block();
        b.length = length;
        b.weight = weight;
        b.strength = strength;
        b.kind = kind;
        b.place = place;
        s.blocks.add(b);
        before.clear();
        return s.blocks.size() - 1;
    }

    // ---- what stands ----

    private static int height(List<Block> blocks, int c) {
        int h = 0;
        for (Block b : blocks) {
            if (b.covers(c)) {
                h = Math.max(h, b.level + 1);
            }
        }
        return h;
    }

    private static int tallest(List<Block> blocks, int w) {
        int h = 0;
        for (int c = 0; c < w; c++) {
            h = Math.max(h, height(blocks, c));
        }
        return h;
    }

    private static Block at(List<Block> blocks, int c, int level) {
        for (Block b : blocks) {
            if (b.covers(c) && b.level == level) {
                return b;
            }
        }
        return null;
    }

    private static List<Integer> bearers(List<Block> blocks, Block b) {
        List<Integer> found = new ArrayList<>();
        for (int c = b.column; c < b.column + b.length; c++) {
            if (b.level == 0 || at(blocks, c, b.level - 1) != null) {
                found.add(c);
            }
        }
        return found;
    }

    private static boolean stands(List<Block> blocks, Block b) {
        List<Integer> by = bearers(blocks, b);
        if (b.length < 3) {
            return by.size() == b.length;
        }
        return by.contains(b.column + 1) || by.contains(b.column) && by.contains(b.column + 2);
    }

    /** By what each block that rests on it gives, asked anew each time. */
    private static int load(List<Block> blocks, Block b) {
        int sum = 0;
        if (b.column == NONE) {
            return 0;
        }
        for (Block over : blocks) {
            if (over.column != NONE && over.level == b.level + 1) {
                List<Integer> by = bearers(blocks, over);
                int all = over.weight + (by.isEmpty() ? 0 : load(blocks, over));
                for (int i = 0; i < by.size(); i++) {
                    if (b.covers(by.get(i))) {
                        sum += all / by.size() + (i < all % by.size() ? 1 : 0);
                    }
                }
            }
        }
        return sum;
    }

    private static int bears(Block b) {
        double most = b.strength;
        if ((b.kind & 1) != 0) {
            most = Math.floor(most / 2);
        }
        if ((b.kind & 2) != 0) {
            most = Math.floor(most / 3);
        }
        return (b.kind & 4) != 0 ? 0 : (int) most;
    }

    private static int tooLoaded(List<Block> blocks) {
        for (int level = 20; level >= 0; level--) {
            for (int i = 0; i < blocks.size(); i++) {
                if (blocks.get(i).level == level && load(blocks, blocks.get(i)) > bears(blocks.get(i))) {
                    return i;
                }
            }
        }
        return NONE;
    }

    private static int levelFor(List<Block> blocks, int length, int column) {
        int level = 0;
        for (int c = column; c < column + length; c++) {
            level = Math.max(level, height(blocks, c));
        }
        return level;
    }

    private static int cost(int place, int column, int level) {
        int d = place - (10 + column);
        return (d < 0 ? -d : d) + level;
    }

    /** Puts it; why it is refused, and then it stays where it was. */
    private static int carry(List<Block> blocks, int w, int block, int column) {
        if (block < 0 || block >= blocks.size() || blocks.get(block).column != NONE || column < 0
                || column + blocks.get(block).length > w) {
            return 1;
        }
        Block b = blocks.get(block);
        int level = levelFor(blocks, b.length, column);
        b.column = column;
        b.level = level;
        int no = !stands(blocks, b) ? 2 : tooLoaded(blocks) != NONE ? 3 : 0;
        if (no != 0) {
            b.column = NONE;
            b.level = NONE;
        }
        return no;
    }

    int put(int block, int column) {
        State old = s.copy();
        why = column < 0 || column > 99 ? 1 : carry(s.blocks, s.w, block, column);
        overloaded = NONE;
        if (why == 3) {
            State would = s.copy();
            Block b = would.blocks.get(block);
            b.level = levelFor(would.blocks, b.length, column);
            b.column = column;
            overloaded = tooLoaded(would.blocks);
        }
        if (why != 0) {
            return NONE;
        }
        Block b = s.blocks.get(block);
        done(old, cost(b.place, b.column, b.level));
        return b.level;
    }

    private void done(State old, int cost) {
        s.carries++;
        s.cost += cost;
        before.add(old);
        if (before.size() > 12) {
            before.remove(0);
        }
    }

    private static boolean free(List<Block> blocks, Block b) {
        for (int c = b.column; c < b.column + b.length; c++) {
            if (height(blocks, c) > b.level + 1) {
                return false;
            }
        }
        return true;
    }

    boolean take(int block, int place) {
        overloaded = NONE;
        why = 1;
        if (block < 0 || block >= s.blocks.size() || place < 0 || place > 59) {
            return false;
        }
        Block b = s.blocks.get(block);
        if (b.column == NONE || !free(s.blocks, b)) {
            return false;
        }
        why = 0;
        State old = s.copy();
        done(old, cost(place, b.column, b.level));
        b.place = place;
        b.column = NONE;
        b.level = NONE;
        return true;
    }

    int refused(int what) {
        return what == 0 ? why : what == 1 ? overloaded : NONE;
    }

    int of(int block, int what) {
        if (block < 0 || block >= s.blocks.size() || what < 0 || what > 9) {
            return -2;
        }
        Block b = s.blocks.get(block);
        int[] all = {b.length, b.weight, b.strength, b.kind, b.column == NONE ? b.place : NONE, b.column, b.level,
            load(s.blocks, b), bears(b), hands(b.weight)};
        return all[what];
    }

    int height(int column) {
        if (column == NONE) {
            return tallest(s.blocks, s.w);
        }
        return column < 0 || column >= s.w ? -2 : height(s.blocks, column);
    }

    // ---- days ----

    int noon() {
        if (s.wasNoon) {
            return -2;
        }
        s.wasNoon = true;
        s.noon = tallest(s.blocks, s.w);
        before.clear();
        return judge("noon");
    }

    int dusk() {
        int line = judge("dusk");
        for (Block b : s.blocks) {
            if (b.column != NONE) {
                b.place = Math.min(59, 10 + b.column + 2 * b.level);
                b.strength = Math.max(0, b.strength - b.level);
                b.column = NONE;
                b.level = NONE;
            }
        }
        s.carries = 0;
        s.cost = 0;
        s.noon = 0;
        s.wasNoon = false;
        s.day++;
        before.clear();
        return line;
    }

    private int judge(String when) {
        for (int i = 0; i < s.vow.size(); i++) {
            List<String> line = s.vow.get(i);
            if (line.get(0).equals(when) && !either(line.subList(1, line.size()))) {
                s.broken++;
                return i;
            }
        }
        return NONE;
    }

    // ---- the vow ----

    int feed(int a, int b, int c, int d, int e) {
        if (tape.size() + 20 > 400) {
            return NONE;
        }
        for (int n : new int[] {a, b, c, d, e}) {
            tape.add(n >>> 24);
            tape.add(n >>> 16 & 255);
            tape.add(n >>> 8 & 255);
            tape.add(n & 255);
        }
        return tape.size();
    }

    boolean end(int n) {
        if (n < 0 || n > tape.size()) {
            return false;
        }
        while (tape.size() > n) {
            tape.remove(tape.size() - 1);
        }
        return true;
    }

    private static final List<String> FACTS =
            Arrays.asList("height", "blocks", "carries", "cost", "holy", "seen", "day");

    int text() {
        StringBuilder text = new StringBuilder();
        for (int b : tape) {
            text.append((char) b);
        }
        tape.clear();
        List<String> tokens = new ArrayList<>();
        List<Integer> places = new ArrayList<>();
        java.util.regex.Matcher m =
                java.util.regex.Pattern.compile("[a-zA-Z]+|[0-9]+|[^ \n]", java.util.regex.Pattern.DOTALL).matcher(text);
        while (m.find()) {
            tokens.add(m.group());
            places.add(m.start());
        }
        tokens.add("END");
        places.add(text.length());
        fault = 0;
        faultPlace = NONE;
        int bad = firstFault(tokens);
        if (bad != NONE) {
            faultPlace = places.get(bad);
            return NONE;
        }
        s.vow = new ArrayList<>();
        List<String> line = new ArrayList<>();
        for (int i = 0; i < tokens.size() - 1; i++) {
            if (tokens.get(i).equals(";")) {
                s.vow.add(line);
                line = new ArrayList<>();
            } else {
                line.add(tokens.get(i));
            }
        }
        return s.vow.size();
    }

    private static boolean number(String t) {
        return t.matches("[0-9]{1,4}");
    }

    /** A table of states: 0 a line, 1 a claim, 2 behind a unit, 3 a unit, 4 a divisor, 5 behind a closed claim. */
    private int firstFault(List<String> tokens) {
        int state = 0;
        boolean right = false;
        int lines = 0;
        List<String> open = new ArrayList<>();
        for (int i = 0; i < tokens.size(); i++) {
            String t = tokens.get(i);
            fault = 1;
            boolean unit = number(t) || FACTS.contains(t);
            switch (state) {
                case 0:
                    if (t.equals("END") && i == tokens.size() - 1) {
                        fault = 0;
                        return NONE;
                    }
                    if (!t.equals("noon") && !t.equals("dusk")) {
                        return i;
                    }
                    lines++;
                    if (lines == 17) {
                        fault = 3;
                        return i;
                    }
                    state = 1;
                    break;
                case 1:
                    if (t.equals("not") || t.equals("(")) {
                        open.add(t);
                        if (open.size() == 9) {
                            fault = 3;
                            return i;
                        }
                    } else if (unit) {
                        state = 2;
                        right = false;
                    } else {
                        return i;
                    }
                    break;
                case 3:
                    if (!unit) {
                        return i;
                    }
                    state = 2;
                    break;
                case 4:
                    if (!number(t)) {
                        return i;
                    }
                    if (Integer.parseInt(t) == 0) {
                        fault = 2;
                        return i;
                    }
                    state = 2;
                    break;
                default:
                    if (state == 2 && (t.equals("+") || t.equals("-") || t.equals("*"))) {
                        state = 3;
                    } else if (state == 2 && t.equals("/")) {
                        state = 4;
                    } else if (state == 2 && !right) {
                        if (!t.equals("<") && !t.equals("=") && !t.equals(">")) {
                            return i;
                        }
                        right = true;
                        state = 3;
                    } else {
                        while (!open.isEmpty() && open.get(open.size() - 1).equals("not")) {
                            open.remove(open.size() - 1);
                        }
                        if (t.equals("and") || t.equals("or")) {
                            state = 1;
                        } else if (t.equals(")") && !open.isEmpty()) {
                            open.remove(open.size() - 1);
                            state = 5;
                        } else if (t.equals(";") && open.isEmpty()) {
                            state = 0;
                        } else {
                            return i;
                        }
                    }
            }
        }
        return NONE;
    }

    private static List<List<String>> split(List<String> tokens, String by) {
        List<List<String>> parts = new ArrayList<>();
        List<String> part = new ArrayList<>();
        int depth = 0;
        for (String t : tokens) {
            depth += t.equals("(") ? 1 : t.equals(")") ? -1 : 0;
            if (depth == 0 && t.equals(by)) {
                parts.add(part);
                part = new ArrayList<>();
            } else {
                part.add(t);
            }
        }
        parts.add(part);
        return parts;
    }

    private boolean either(List<String> tokens) {
        for (List<String> all : split(tokens, "or")) {
            boolean so = true;
            for (List<String> one : split(all, "and")) {
                so &= claim(one);
            }
            if (so) {
                return true;
            }
        }
        return false;
    }

    private boolean claim(List<String> t) {
        if (t.get(0).equals("not")) {
            return !claim(t.subList(1, t.size()));
        }
        if (t.get(0).equals("(")) {
            return either(t.subList(1, t.size() - 1));
        }
        for (int i = 0; i < t.size(); i++) {
            String sign = t.get(i);
            if ("<=>".contains(sign)) {
                int order = Integer.compare(sum(t.subList(0, i)), sum(t.subList(i + 1, t.size())));
                return sign.equals("<") ? order < 0 : sign.equals("=") ? order == 0 : order > 0;
            }
        }
        throw new IllegalStateException("no order in " + t);
    }

    private int sum(List<String> t) {
        for (int i = t.size() - 1; i >= 0; i--) {
            if (t.get(i).equals("+")) {
                return sum(t.subList(0, i)) + sum(t.subList(i + 1, t.size()));
            }
            if (t.get(i).equals("-")) {
                return sum(t.subList(0, i)) - sum(t.subList(i + 1, t.size()));
            }
        }
        if (t.size() > 1) {
            int first = sum(t.subList(0, t.size() - 2));
            int last = unit(t.get(t.size() - 1));
            return t.get(t.size() - 2).equals("*") ? first * last : first / last;
        }
        return unit(t.get(0));
    }

    private int unit(String t) {
        int holy = 0;
        int top = NONE;
        int standing = 0;
        for (Block b : s.blocks) {
            standing += b.column != NONE ? 1 : 0;
            if (b.column != NONE && b.level > top) {
                top = b.level;
                holy = (b.kind & 4) != 0 ? 1 : 0;
            }
        }
        switch (t) {
            case "height": return tallest(s.blocks, s.w);
            case "blocks": return standing;
            case "carries": return s.carries;
            case "cost": return s.cost;
            case "holy": return holy;
            case "seen": return s.noon;
            case "day": return s.day;
            default: return Integer.parseInt(t);
        }
    }

    int fault(int what) {
        return what == 0 ? fault : what == 1 ? faultPlace : NONE;
    }

    // ---- plans ----

    private List<int[]> best;
    private int bestCost;

    private int inYard() {
        int yard = 0;
        for (Block b : s.blocks) {
            yard += b.column == NONE ? 1 : 0;
        }
        return yard;
    }

    int plan(int height, int what) {
        if (height < 1 || height > 20 || s.w > 5 || inYard() > 6) {
            return NONE;
        }
        best = null;
        for (int n = 0; n <= 5 && best == null; n++) {
            every(s.copy().blocks, n, height, 0, new ArrayList<>());
        }
        if (best == null) {
            return NONE;
        }
        if (what == 0 || what == 1) {
            return what == 0 ? best.size() : bestCost;
        }
        int i = what % 10;
        boolean known = (what / 10 == 1 || what / 10 == 2) && i < best.size() && what >= 10;
        return known ? best.get(i)[what / 10 - 1] : NONE;
    }

    private void every(List<Block> blocks, int n, int height, int cost, List<int[]> path) {
        if (n == 0) {
            if (tallest(blocks, s.w) >= height && (best == null || cost < bestCost)) {
                best = new ArrayList<>(path);
                bestCost = cost;
            }
            return;
        }
        for (int b = 0; b < blocks.size(); b++) {
            for (int c = 0; c < s.w; c++) {
                if (carry(blocks, s.w, b, c) == 0) {
                    Block moved = blocks.get(b);
                    path.add(new int[] {b, c});
                    every(blocks, n - 1, height, cost + cost(moved.place, c, moved.level), path);
                    path.remove(path.size() - 1);
                    moved.column = NONE;
                    moved.level = NONE;
                }
            }
        }
    }

    int down(int i) {
        List<Block> blocks = s.copy().blocks;
        for (int turn = 0; ; turn++) {
            int taken = NONE;
            for (int b = blocks.size() - 1; b >= 0; b--) {
                if (blocks.get(b).column != NONE && free(blocks, blocks.get(b))) {
                    taken = b;
                }
            }
            if (taken == NONE || i < 0) {
                return NONE;
            }
            if (turn == i) {
                return taken;
            }
            blocks.get(taken).column = NONE;
            blocks.get(taken).level = NONE;
        }
    }

    private int towers;
    private List<Block> first;

    int which(int set, int what) {
        List<Block> chosen = new ArrayList<>();
        List<Integer> numbers = new ArrayList<>();
        for (int b = 0; b < 32; b++) {
            if ((set >>> b & 1) != 0) {
                if (b >= s.blocks.size() || s.blocks.get(b).column != NONE) {
                    return NONE;
                }
                chosen.add(s.blocks.get(b).copy());
                numbers.add(b);
            }
        }
        if (chosen.isEmpty() || chosen.size() > 6) {
            return NONE;
        }
        towers = 0;
        first = null;
        everyTower(chosen, 0);
        if (what == 0) {
            return towers;
        }
        if (first == null || what < 10 || what > 49) {
            return NONE;
        }
        int i = numbers.indexOf((what - 10) % 20);
        return i < 0 ? NONE : what < 30 ? first.get(i).column : first.get(i).level;
    }

    private void everyTower(List<Block> chosen, int i) {
        if (i == chosen.size()) {
            if (isTower(chosen)) {
                towers++;
                if (first == null) {
                    first = new ArrayList<>();
                    for (Block b : chosen) {
                        first.add(b.copy());
                    }
                }
            }
            return;
        }
        Block b = chosen.get(i);
        for (int c = 0; c + b.length <= s.w; c++) {
            for (int level = 0; level < 20; level++) {
                if (Math.min(59, 10 + c + 2 * level) == b.place) {
                    b.column = c;
                    b.level = level;
                    everyTower(chosen, i + 1);
                }
            }
        }
        b.column = NONE;
        b.level = NONE;
    }

    private static boolean isTower(List<Block> chosen) {
        for (Block b : chosen) {
            int belongs = 0;
            for (Block other : chosen) {
                for (int c = b.column; c < b.column + b.length; c++) {
                    if (other != b && other.covers(c)) {
                        if (other.level == b.level) {
                            return false;
                        }
                        if (other.level < b.level) {
                            belongs = Math.max(belongs, other.level + 1);
                        }
                    }
                }
            }
            if (belongs != b.level || !stands(chosen, b) || load(chosen, b) > bears(b)) {
                return false;
            }
        }
        return true;
    }

    // ---- hands, winds ----

    int hand(int arms) {
        if (arms < 1 || arms > 99 || s.hands.size() == 8) {
            return NONE;
        }
        s.hands.add(arms);
        return s.hands.size() - 1;
    }

    boolean quarrel(int a, int b, boolean are) {
        int n = s.hands.size();
        if (a < 0 || b < 0 || a >= n || b >= n || a == b) {
            return false;
        }
        s.quarrels[a][b] = are;
        s.quarrels[b][a] = are;
        return true;
    }

    private int hands(int weight) {
        for (int size = 0; size <= 8; size++) {
            for (int set = 0; set < 1 << s.hands.size(); set++) {
                int sum = 0;
                int number = 0;
                boolean peace = true;
                for (int a = 0; a < s.hands.size(); a++) {
                    if ((set >> a & 1) != 0) {
                        sum += s.hands.get(a);
                        number++;
                        for (int b = 0; b < s.hands.size(); b++) {
                            peace &= (set >> b & 1) == 0 || !s.quarrels[a][b];
                        }
                    }
                }
                if (number == size && peace && sum >= weight) {
                    return set;
                }
            }
        }
        return NONE;
    }

    boolean wind(int hour, int height, int chance) {
        if (hour < 0 || hour > 7 || height < 1 || height > 8 || chance < 0 || chance > 10) {
            return false;
        }
        s.winds[hour][height] = chance;
        return true;
    }

    boolean pay(int height, int v) {
        if (height < 0 || height > 8 || v < 0 || v > 999) {
            return false;
        }
        s.pays[height] = v;
        return true;
    }

    private static long tens(int n) {
        return n <= 0 ? 1 : 10 * tens(n - 1);
    }

    private long go(int n, int h, int height) {
        long falls = s.winds[h][height + 1];
        return falls * s.pays[0] * tens(n - h - 1) + (10 - falls) * value(n, h + 1, height + 1);
    }

    private long value(int n, int h, int height) {
        long stop = s.pays[height] * tens(n - h);
        return h == n || height == 8 ? stop : Math.max(stop, go(n, h, height));
    }

    long worth(int n, int h, int height, int what) {
        if (n < 1 || n > 8 || h < 0 || h > n || height < 0 || height > 8 || what < 0 || what > 1) {
            return NONE;
        }
        if (what == 0) {
            return value(n, h, height);
        }
        return h < n && height < 8 && go(n, h, height) > s.pays[height] * tens(n - h) ? 1 : 0;
    }

    private long chance(int n, int h, int height, boolean fell, int k) {
        if (h == n) {
            return (fell ? 0 : height) >= k ? 1 : 0;
        }
        if (fell) {
            return 10 * chance(n, h + 1, 0, true, k);
        }
        long falls = s.winds[h][height + 1];
        return falls * chance(n, h + 1, 0, true, k) + (10 - falls) * chance(n, h + 1, height + 1, false, k);
    }

    long bet(int n, int k) {
        return n < 1 || n > 8 || k < 0 || k > 8 ? NONE : chance(n, 0, 0, false, k);
    }

    // ---- back ----

    boolean undo() {
        if (before.isEmpty()) {
            return false;
        }
        State old = before.remove(before.size() - 1);
        s.blocks = old.blocks;
        s.carries = old.carries;
        s.cost = old.cost;
        return true;
    }

    boolean image(boolean taken) {
        if (taken) {
            image = s.copy();
        } else if (image != null) {
            s = image.copy();
            before.clear();
        }
        return image != null;
    }

    int look(int what) {
        int[] all = {s.w, s.blocks.size(), s.blocks.size() - inYard(), s.day, s.carries, s.cost, s.noon, s.broken,
            s.hands.size(), before.size(), s.vow.size()};
        return what < 0 || what > 10 ? NONE : all[what];
    }
}
