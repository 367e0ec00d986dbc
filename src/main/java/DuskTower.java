import java.util.Arrays;

/** Blocks carried onto columns, judged by a vow at noon and at dusk, when all of it falls. */
public final class DuskTower {
    public static final int NONE = -1;

    private static final int MOST_COLUMNS = 8;
    private static final int MOST_BLOCKS = 20;
    private static final int MOST_PLACES = 60;
    private static final int MOST_SET = 6;
    private static final int MOST_HANDS = 8;
    private static final int MOST_HOURS = 8;
    private static final int MOST_HEIGHT = 8;
    private static final int MOST_TAPE = 400;
    private static final int HOLLOW = 1;
    private static final int CRACKED = 2;
    private static final int HOLY = 4;

    private static final int CANNOT_BE = 1;
    private static final int NOT_STANDING = 2;
    private static final int TOO_MUCH_LOAD = 3;

    private final World world = new World();
    private final World kept = new World();
    private boolean isKept = false;
    private final Trail trail = new Trail();
    private final byte[] tape = new byte[MOST_TAPE];
    private int taped = 0;
    // The latest text() is read in the draft, so that a faulty one leaves the vow alone; it also remembers the fault.
    private final Vow draft = new Vow();
    private int why = 0;
    private int tooLoaded = NONE;
    // Plans and towers that might have been are tried here, never in the world's own tower.
    private final Tower trial = new Tower();
    private final Planner planner = new Planner();
    private final Finder finder = new Finder();

    public DuskTower() {
        world.begin(5);
    }

    public boolean columns(int w) {
        if (w < 2 || w > MOST_COLUMNS) {
            return false;
        }
        world.begin(w);
        trail.forget();
        return true;
    }

    public int block(int length, int weight, int strength, int kind, int place) {
        Tower tower = world.tower;
        boolean shaped = length >= 1 && length <= 3 && length <= tower.width && kind >= 0 && kind <= 7;
        boolean strong = weight >= 1 && weight <= 99 && strength >= 0 && strength <= 999;
        if (!shaped || !strong || !isPlace(place) || tower.count >= MOST_BLOCKS) {
            return NONE;
        }
        trail.forget();
        return tower.add(length, weight, strength, kind, place);
    }

    public int put(int block, int column) {
        Tower tower = world.tower;
        if (!tower.isInYard(block) || !tower.fits(block, column)) {
            refuse(CANNOT_BE, NONE);
            return NONE;
        }
        int place = tower.places[block];
        int reason = tower.raise(block, column);
        refuse(reason, tower.tooLoaded);
        if (reason != 0) {
            return NONE;
        }
        int level = tower.levels[block];
        int cost = costOf(place, column, level);
        world.day.carry(cost);
        trail.remember(block, place, NONE, cost);
        return level;
    }

    public boolean take(int block, int place) {
        Tower tower = world.tower;
        if (!tower.isInTower(block) || !tower.isFree(block) || !isPlace(place)) {
            refuse(CANNOT_BE, NONE);
            return false;
        }
        refuse(0, NONE);
        int column = tower.columns[block];
        int cost = costOf(place, column, tower.levels[block]);
        tower.lift(block, place);
        world.day.carry(cost);
        trail.remember(block, NONE, column, cost);
        return true;
    }

    public int refused(int what) {
        if (what == 0) {
            return why;
        }
        return what == 1 ? tooLoaded : NONE;
    }

    public int of(int block, int what) {
        Tower tower = world.tower;
        if (!tower.isKnown(block)) {
            return NONE - 1;
        }
        switch (what) {
            case 0: return tower.lengths[block];
            case 1: return tower.weights[block];
            case 2: return tower.strengths[block];
            case 3: return tower.kinds[block];
            case 4: return tower.places[block];
            case 5: return tower.columns[block];
            case 6: return tower.levels[block];
            case 7: return tower.loadOf(block);
            case 8: return tower.bears(block);
            case 9: return world.crew.fewest(tower.weights[block]);
            default: return NONE - 1;
        }
    }

    public int height(int column) {
        Tower tower = world.tower;
        if (column == NONE) {
            return tower.tallest();
        }
        return column >= 0 && column < tower.width ? tower.heights[column] : NONE - 1;
    }

    public int noon() {
        Day day = world.day;
        if (day.hadNoon) {
            return NONE - 1;
        }
        day.hadNoon = true;
        day.seen = world.tower.tallest();
        trail.forget();
        return judge(Vow.NOON);
    }

    public int dusk() {
        int broken = judge(Vow.DUSK);
        world.tower.fall();
        world.day.pass();
        trail.forget();
        return broken;
    }

    public int feed(int a, int b, int c, int d, int e) {
        if (taped + 20 > MOST_TAPE) {
            return NONE;
        }
        punch(a);
        punch(b);
        punch(c);
        punch(d);
        punch(e);
        return taped;
    }

    public boolean end(int n) {
        if (n < 0 || n > taped) {
            return false;
        }
        taped = n;
        return true;
    }

    public int text() {
        draft.scan(tape, taped);
        taped = 0;
        draft.read(NONE);
        if (draft.wrong != 0) {
            return NONE;
        }
        world.vow.become(draft);
        return draft.lines;
    }

    public int fault(int what) {
        if (what == 0) {
            return draft.wrong;
        }
        return what == 1 ? draft.wrongAt : NONE;
    }

    public int plan(int height, int what) {
        Tower tower = world.tower;
        if (height < 1 || height > 20 || tower.width > 5 || tower.inYard() > MOST_SET) {
            return NONE;
        }
        if (!Planner.isAsked(what)) {
            return NONE;
        }
        trial.become(tower);
        planner.seek(trial, height);
        return planner.answer(what);
    }

    public int down(int i) {
        if (i < 0 || i >= MOST_BLOCKS) {
            return NONE;
        }
        trial.become(world.tower);
        int taken = NONE;
        for (int turn = 0; turn <= i; turn++) {
            taken = trial.leastFree();
            if (taken == NONE) {
                return NONE;
            }
            trial.lift(taken, 0);
        }
        return taken;
    }

    public int which(int set, int what) {
        if (set == 0 || Integer.bitCount(set) > MOST_SET || (set & ~world.tower.yardSet()) != 0) {
            return NONE;
        }
        if (!Finder.isAsked(set, what)) {
            return NONE;
        }
        trial.become(world.tower);
        trial.clear();
        finder.seek(trial, set);
        return finder.answer(what);
    }

    public int hand(int arms) {
        return world.crew.add(arms);
    }

    public boolean quarrel(int a, int b, boolean are) {
        return world.crew.setFoes(a, b, are);
    }

    public boolean wind(int hour, int height, int chance) {
        return world.sky.setChance(hour, height, chance);
    }

    public boolean pay(int height, int v) {
        return world.sky.setReward(height, v);
    }

    public long worth(int n, int h, int height, int what) {
        boolean hours = n >= 1 && n <= MOST_HOURS && h >= 0 && h <= n;
        if (!hours || height < 0 || height > MOST_HEIGHT || what < 0 || what > 1) {
            return NONE;
        }
        return world.sky.best(n, h, height, what == 1);
    }

    public long bet(int n, int k) {
        if (n < 1 || n > MOST_HOURS || k < 0 || k > MOST_HEIGHT) {
            return NONE;
        }
        return world.sky.odds(n, k);
    }

    public boolean undo() {
        int last = trail.newest();
        if (last == NONE) {
            return false;
        }
        int block = trail.blocks[last];
        if (trail.places[last] == NONE) {
            world.tower.drop(block, trail.columns[last]);
        } else {
            world.tower.lift(block, trail.places[last]);
        }
        world.day.uncarry(trail.costs[last]);
        trail.dropNewest();
        return true;
    }

    public boolean image(boolean taken) {
        if (taken) {
            kept.become(world);
            isKept = true;
            return true;
        }
        if (!isKept) {
            return false;
        }
        world.become(kept);
        trail.forget();
        return true;
    }

    public int look(int what) {
        switch (what) {
            case 0: return world.tower.width;
            case 1: return world.tower.count;
            case 2: return world.tower.count - world.tower.inYard();
            case 3: return world.day.number;
            case 4: return world.day.carries;
            case 5: return world.day.cost;
            case 6: return world.day.seen;
            case 7: return world.day.broken;
            case 8: return world.crew.count;
            case 9: return trail.size;
            case 10: return world.vow.lines;
            default: return NONE;
        }
    }

    private void refuse(int reason, int block) {
        why = reason;
        tooLoaded = block;
    }

    private void punch(int number) {
        for (int shift = 24; shift >= 0; shift -= 8) {
            if (taped < tape.length) {
                tape[taped] = (byte) (number >> shift);
                taped++;
            }
        }
    }

    private int judge(int when) {
        Tower tower = world.tower;
        Day day = world.day;
        Vow vow = world.vow;
        vow.tell(Vow.HEIGHT, tower.tallest());
        vow.tell(Vow.BLOCKS, tower.count - tower.inYard());
        vow.tell(Vow.CARRIES, day.carries);
        vow.tell(Vow.COST, day.cost);
        vow.tell(Vow.HOLY_TOP, tower.isTopHoly() ? 1 : 0);
        vow.tell(Vow.SEEN, day.seen);
        vow.tell(Vow.DAY, day.number);
        int broken = vow.read(when);
        if (broken != NONE) {
            day.broken++;
        }
        return broken;
    }

    private static boolean isPlace(int place) {
        return place >= 0 && place < MOST_PLACES;
    }

    private static int costOf(int place, int column, int level) {
        return Math.abs(place - 10 - column) + level;
    }

    /** All that THE IMAGE keeps. */
    private static final class World {
        final Tower tower = new Tower();
        final Day day = new Day();
        final Vow vow = new Vow();
        final Crew crew = new Crew();
        final Sky sky = new Sky();

        void begin(int width) {
            tower.begin(width);
            day.begin();
            vow.begin();
            crew.begin();
            sky.begin();
        }

        void become(World other) {
            tower.become(other.tower);
            day.become(other.day);
            vow.become(other.vow);
            crew.become(other.crew);
            sky.become(other.sky);
        }
    }

    /** The blocks, in the yard and in the tower. */
    private static final class Tower {
        int width = 5;
        int count = 0;
        final int[] lengths = new int[MOST_BLOCKS];
        final int[] weights = new int[MOST_BLOCKS];
        final int[] strengths = new int[MOST_BLOCKS];
        final int[] kinds = new int[MOST_BLOCKS];
        final int[] places = new int[MOST_BLOCKS];
        final int[] columns = new int[MOST_BLOCKS];
        final int[] levels = new int[MOST_BLOCKS];
        final int[] heights = new int[MOST_COLUMNS];
        // Which block lies in a column at a level, so that what bears what needs no search.
        final int[] cells = new int[MOST_COLUMNS * MOST_BLOCKS];
        private final int[] loads = new int[MOST_BLOCKS];
        int tooLoaded = NONE;

        void begin(int w) {
            width = w;
            count = 0;
            clearCells();
        }

        void become(Tower other) {
            width = other.width;
            count = other.count;
            System.arraycopy(other.lengths, 0, lengths, 0, MOST_BLOCKS);
            System.arraycopy(other.weights, 0, weights, 0, MOST_BLOCKS);
            System.arraycopy(other.strengths, 0, strengths, 0, MOST_BLOCKS);
            System.arraycopy(other.kinds, 0, kinds, 0, MOST_BLOCKS);
            System.arraycopy(other.places, 0, places, 0, MOST_BLOCKS);
            System.arraycopy(other.columns, 0, columns, 0, MOST_BLOCKS);
            System.arraycopy(other.levels, 0, levels, 0, MOST_BLOCKS);
            System.arraycopy(other.heights, 0, heights, 0, MOST_COLUMNS);
            System.arraycopy(other.cells, 0, cells, 0, cells.length);
        }

        int add(int length, int weight, int strength, int kind, int place) {
            if (count >= MOST_BLOCKS) {
                return NONE;
            }
            lengths[count] = length;
            weights[count] = weight;
            strengths[count] = strength;
            kinds[count] = kind;
            places[count] = place;
            columns[count] = NONE;
            levels[count] = NONE;
            count++;
            return count - 1;
        }

        boolean isKnown(int block) {
            return block >= 0 && block < count;
        }

        boolean isInYard(int block) {
            return isKnown(block) && places[block] != NONE;
        }

        boolean isInTower(int block) {
            return isKnown(block) && places[block] == NONE;
        }

        boolean fits(int block, int column) {
            return isKnown(block) && column >= 0 && column <= width - lengths[block];
        }

        int inYard() {
            return Integer.bitCount(yardSet());
        }

        int yardSet() {
            int set = 0;
            for (int block = 0; block < count; block++) {
                if (places[block] != NONE) {
                    set |= 1 << block;
                }
            }
            return set;
        }

        int tallest() {
            int most = 0;
            for (int column = 0; column < width; column++) {
                most = Math.max(most, heights[column]);
            }
            return most;
        }

        int bears(int block) {
            int kind = kinds[block];
            if ((kind & HOLY) != 0) {
                return 0;
            }
            int most = strengths[block];
            if ((kind & HOLLOW) != 0) {
                most /= 2;
            }
            return (kind & CRACKED) != 0 ? most / 3 : most;
        }

        int loadOf(int block) {
            if (!isInTower(block)) {
                return 0;
            }
            weigh();
            return loads[block];
        }

        boolean isFree(int block) {
            for (int i = 0; i < lengths[block]; i++) {
                if (heightAt(columns[block] + i) > levels[block] + 1) {
                    return false;
                }
            }
            return true;
        }

        int leastFree() {
            for (int block = 0; block < count; block++) {
                if (places[block] == NONE && isFree(block)) {
                    return block;
                }
            }
            return NONE;
        }

        /** Whether no block rests on it: one may reach over it at a greater level and rest elsewhere. */
        boolean isBare(int block) {
            for (int i = 0; i < lengths[block]; i++) {
                if (cellAt(columns[block] + i, levels[block] + 1) != NONE) {
                    return false;
                }
            }
            return true;
        }

        int levelFor(int block, int column) {
            int level = 0;
            for (int i = 0; i < lengths[block]; i++) {
                level = Math.max(level, heightAt(column + i));
            }
            return level;
        }

        boolean wouldStand(int block, int column) {
            int level = levelFor(block, column);
            boolean left = heightAt(column) == level;
            switch (lengths[block]) {
                case 1: return left;
                case 2: return left && heightAt(column + 1) == level;
                default: return heightAt(column + 1) == level || left && heightAt(column + 2) == level;
            }
        }

        /** Puts it there unless that is refused; answers why, or 0. */
        int raise(int block, int column) {
            tooLoaded = NONE;
            if (!wouldStand(block, column)) {
                return NOT_STANDING;
            }
            int place = places[block];
            drop(block, column);
            weigh();
            tooLoaded = overloaded();
            if (tooLoaded == NONE) {
                return 0;
            }
            lift(block, place);
            return TOO_MUCH_LOAD;
        }

        void drop(int block, int column) {
            if (!fits(block, column)) {
                return;
            }
            int level = levelFor(block, column);
            places[block] = NONE;
            columns[block] = column;
            levels[block] = level;
            for (int i = 0; i < lengths[block]; i++) {
                mark(column + i, level, block);
                heights[column + i] = level + 1;
            }
        }

        void lift(int block, int place) {
            if (!isInTower(block)) {
                return;
            }
            for (int i = 0; i < lengths[block]; i++) {
                int column = columns[block] + i;
                mark(column, levels[block], NONE);
                settle(column);
            }
            toYard(block, place);
        }

        void fall() {
            for (int block = 0; block < count; block++) {
                if (places[block] == NONE) {
                    int level = levels[block];
                    strengths[block] = Math.max(0, strengths[block] - level);
                    toYard(block, Math.min(MOST_PLACES - 1, 10 + columns[block] + 2 * level));
                }
            }
            clearCells();
        }

        /** Leaves all blocks in the yard; where those of the tower come to lie is of no account to who calls this. */
        void clear() {
            for (int block = 0; block < count; block++) {
                if (places[block] == NONE) {
                    toYard(block, 0);
                }
            }
            clearCells();
        }

        boolean isTopHoly() {
            int top = NONE;
            for (int block = 0; block < count; block++) {
                if (places[block] == NONE && (top == NONE || levels[block] > levels[top])) {
                    top = block;
                }
            }
            return top != NONE && (kinds[top] & HOLY) != 0;
        }

        /** The block with too much load as last weighed, that at the greatest level, then the least number. */
        int overloaded() {
            int found = NONE;
            for (int block = 0; block < count; block++) {
                boolean over = places[block] == NONE && loads[block] > bears(block);
                if (over && (found == NONE || levels[block] > levels[found])) {
                    found = block;
                }
            }
            return found;
        }

        void weigh() {
            Arrays.fill(loads, 0);
            for (int level = tallest() - 1; level > 0; level--) {
                for (int column = 0; column < width; column++) {
                    int block = cellAt(column, level);
                    if (block != NONE && columns[block] == column) {
                        share(block);
                    }
                }
            }
        }

        private void share(int block) {
            int below = levels[block] - 1;
            int bearers = 0;
            for (int i = 0; i < lengths[block]; i++) {
                if (cellAt(columns[block] + i, below) != NONE) {
                    bearers++;
                }
            }
            if (bearers == 0) {
                return;
            }
            int all = weights[block] + loads[block];
            int part = all / bearers;
            int left = all - part * bearers;
            for (int i = 0; i < lengths[block]; i++) {
                int bearer = cellAt(columns[block] + i, below);
                if (bearer != NONE) {
                    loads[bearer] += left > 0 ? part + 1 : part;
                    left--;
                }
            }
        }

        private void toYard(int block, int place) {
            places[block] = place;
            columns[block] = NONE;
            levels[block] = NONE;
        }

        private void settle(int column) {
            int height = 0;
            for (int level = heightAt(column) - 1; level >= 0 && height == 0; level--) {
                if (cellAt(column, level) != NONE) {
                    height = level + 1;
                }
            }
            if (column >= 0 && column < MOST_COLUMNS) {
                heights[column] = height;
            }
        }

        private void clearCells() {
            Arrays.fill(cells, NONE);
            Arrays.fill(heights, 0);
        }

        private void mark(int column, int level, int block) {
            if (column >= 0 && column < MOST_COLUMNS && level >= 0 && level < MOST_BLOCKS) {
                cells[column * MOST_BLOCKS + level] = block;
            }
        }

        private int cellAt(int column, int level) {
            boolean is = column >= 0 && column < MOST_COLUMNS && level >= 0 && level < MOST_BLOCKS;
            return is ? cells[column * MOST_BLOCKS + level] : NONE;
        }

        private int heightAt(int column) {
            return column >= 0 && column < MOST_COLUMNS ? heights[column] : 0;
        }
    }

    /** The day so far. */
    private static final class Day {
        int number = 0;
        int carries = 0;
        int cost = 0;
        int seen = 0;
        boolean hadNoon = false;
        int broken = 0;

        void begin() {
            number = 0;
            broken = 0;
            dawn();
        }

        void become(Day other) {
            number = other.number;
            carries = other.carries;
            cost = other.cost;
            seen = other.seen;
            hadNoon = other.hadNoon;
            broken = other.broken;
        }

        void carry(int price) {
            carries++;
            cost += price;
        }

        void uncarry(int price) {
            carries--;
            cost -= price;
        }

        void pass() {
            number++;
            dawn();
        }

        private void dawn() {
            carries = 0;
            cost = 0;
            seen = 0;
            hadNoon = false;
        }
    }

    /** The latest carries, as a ring: where each block came from, a place or a column. */
    private static final class Trail {
        private static final int MOST = 12;
        final int[] blocks = new int[MOST];
        final int[] places = new int[MOST];
        final int[] columns = new int[MOST];
        final int[] costs = new int[MOST];
        int size = 0;
        private int next = 0;

        void forget() {
            size = 0;
            next = 0;
        }

        void remember(int block, int place, int column, int cost) {
            blocks[next] = block;
            places[next] = place;
            columns[next] = column;
            costs[next] = cost;
            next = next + 1 < MOST ? next + 1 : 0;
            size = Math.min(size + 1, MOST);
        }

        int newest() {
            if (size == 0) {
                return NONE;
            }
            return next > 0 ? next - 1 : MOST - 1;
        }

        void dropNewest() {
            if (size > 0) {
                next = newest();
                size--;
            }
        }
    }

    /** A text as tokens, which is read to find its faults and read again whenever it is to judge. */
    private static final class Vow {
        // A token's code: a number is itself; signs, words and the rest lie above all numbers.
        private static final int SIGN = 10000;
        private static final int WORD = 20000;
        private static final int STOP = 30000;
        private static final int BAD = 30001;
        private static final String SIGNS = ";+-*/()<=>";
        private static final String WORDS = "noon dusk or and not height blocks carries cost holy seen day ";
        static final int NOON = WORD;
        static final int DUSK = WORD + 1;
        private static final int OR = WORD + 2;
        private static final int AND = WORD + 3;
        private static final int NOT = WORD + 4;
        static final int HEIGHT = WORD + 5;
        static final int BLOCKS = WORD + 6;
        static final int CARRIES = WORD + 7;
        static final int COST = WORD + 8;
        static final int HOLY_TOP = WORD + 9;
        static final int SEEN = WORD + 10;
        static final int DAY = WORD + 11;
        private static final int FACTS = 7;
        private static final int MOST_LINES = 16;
        private static final int MOST_OPEN = 8;
        private static final int CANNOT_STAND = 1;
        private static final int PART_BY_ZERO = 2;
        private static final int TOO_MANY = 3;

        private final int[] codes = new int[MOST_TAPE + 1];
        // Where each token stands, for the faults of what was scanned here; a vow that was taken over has none.
        private final int[] starts = new int[MOST_TAPE + 1];
        private int size = 0;
        private int at = 0;
        private final int[] facts = new int[FACTS];
        int lines = 0;
        int wrong = 0;
        int wrongAt = NONE;

        void begin() {
            size = 0;
            lines = 0;
        }

        void become(Vow other) {
            size = other.size;
            lines = other.lines;
            System.arraycopy(other.codes, 0, codes, 0, codes.length);
        }

        void scan(byte[] text, int length) {
            size = 0;
            int from = 0;
            for (int i = 0; i < length && size < MOST_TAPE; i++) {
                if (i < from || text[i] == 32 || text[i] == 10) {
                    continue;
                }
                from = tokenEnd(text, i, length);
                codes[size] = codeOf(text, i, from);
                starts[size] = i;
                size++;
            }
            starts[size] = length;
        }

        void tell(int word, int value) {
            if (word >= HEIGHT && word < HEIGHT + FACTS) {
                facts[word - HEIGHT] = value;
            }
        }

        /** Reads all lines with the facts told; answers the first line for this time of day that is not so. */
        int read(int when) {
            at = 0;
            lines = 0;
            wrong = 0;
            wrongAt = NONE;
            int broken = NONE;
            for (int i = 0; i <= MOST_TAPE && peek() != STOP; i++) {
                int head = peek();
                if (head != NOON && head != DUSK) {
                    fail(CANNOT_STAND);
                } else if (lines >= MOST_LINES) {
                    fail(TOO_MANY);
                } else {
                    at++;
                    boolean so = either(0);
                    expect(SIGN + ';');
                    if (!so && head == when && broken == NONE) {
                        broken = lines;
                    }
                    lines++;
                }
            }
            return broken;
        }

        private static int tokenEnd(byte[] text, int from, int length) {
            boolean letters = isLetter(text[from]);
            boolean digits = isDigit(text[from]);
            int to = from + 1;
            while (to < length && (letters && isLetter(text[to]) || digits && isDigit(text[to]))) {
                to++;
            }
            return to;
        }

        private static int codeOf(byte[] text, int from, int to) {
            if (isLetter(text[from])) {
                return wordOf(text, from, to);
            }
            if (isDigit(text[from])) {
                return numberOf(text, from, to);
            }
            int sign = text[from] & 255;
            return SIGNS.indexOf((char) sign) >= 0 ? SIGN + sign : BAD;
        }

        private static int numberOf(byte[] text, int from, int to) {
            if (to - from > 4) {
                return BAD;
            }
            int number = 0;
            for (int i = from; i < to; i++) {
                number = number * 10 + text[i] - '0';
            }
            return number;
        }

        private static int wordOf(byte[] text, int from, int to) {
            int code = WORD;
            int start = 0;
            for (int i = 0; i < WORDS.length(); i++) {
                if (WORDS.charAt(i) == ' ') {
                    if (i - start == to - from && isSame(text, from, start, i)) {
                        return code;
                    }
                    code++;
                    start = i + 1;
                }
            }
            return BAD;
        }

        private static boolean isSame(byte[] text, int from, int start, int stop) {
            for (int i = start; i < stop; i++) {
                if (text[from + i - start] != WORDS.charAt(i)) {
                    return false;
                }
            }
            return true;
        }

        private static boolean isLetter(byte b) {
            return b >= 'a' && b <= 'z' || b >= 'A' && b <= 'Z';
        }

        private static boolean isDigit(byte b) {
            return b >= '0' && b <= '9';
        }

        private int peek() {
            return at >= 0 && at < size ? codes[at] : STOP;
        }

        /** Keeps the first fault alone, and leaves nothing to read behind it. */
        private void fail(int kind) {
            if (wrong == 0) {
                wrong = kind;
                wrongAt = at >= 0 && at <= size ? starts[at] : NONE;
            }
            at = size;
        }

        private void expect(int code) {
            if (peek() == code) {
                at++;
            } else {
                fail(CANNOT_STAND);
            }
        }

        private boolean either(int open) {
            boolean any = false;
            boolean all = true;
            for (int i = 0; i <= MOST_TAPE; i++) {
                boolean so = claim(open);
                all = all && so;
                int link = peek();
                if (link != AND) {
                    any = any || all;
                    all = true;
                }
                if (link != AND && link != OR) {
                    return any;
                }
                at++;
            }
            return any;
        }

        private boolean claim(int open) {
            int head = peek();
            if (head != NOT && head != SIGN + '(') {
                int left = sum();
                int sign = peek();
                expectOrder();
                return isSo(left, sign, sum());
            }
            if (open >= MOST_OPEN) {
                fail(TOO_MANY);
                return false;
            }
            at++;
            if (head == NOT) {
                return !claim(open + 1);
            }
            boolean so = either(open + 1);
            expect(SIGN + ')');
            return so;
        }

        private void expectOrder() {
            int sign = peek();
            if (sign == SIGN + '<' || sign == SIGN + '=' || sign == SIGN + '>') {
                at++;
            } else {
                fail(CANNOT_STAND);
            }
        }

        private static boolean isSo(int left, int sign, int right) {
            if (sign == SIGN + '=') {
                return left == right;
            }
            return sign == SIGN + '<' ? left < right : left > right;
        }

        private int sum() {
            int total = 0;
            boolean less = false;
            int term = unit();
            for (int i = 0; i <= MOST_TAPE; i++) {
                int sign = peek();
                boolean joins = sign == SIGN + '+' || sign == SIGN + '-';
                if (sign == SIGN + '*') {
                    at++;
                    term *= unit();
                } else if (sign == SIGN + '/') {
                    at++;
                    term = partOf(term);
                } else {
                    total = less ? total - term : total + term;
                    if (!joins) {
                        return total;
                    }
                    at++;
                    less = sign == SIGN + '-';
                    term = unit();
                }
            }
            return total;
        }

        private int partOf(int value) {
            int divisor = peek();
            if (divisor == 0) {
                fail(PART_BY_ZERO);
                return 0;
            }
            if (divisor >= SIGN) {
                fail(CANNOT_STAND);
                return 0;
            }
            at++;
            return value / divisor;
        }

        private int unit() {
            int code = peek();
            if (code < SIGN) {
                at++;
                return code;
            }
            int fact = code - HEIGHT;
            if (fact < 0 || fact >= FACTS) {
                fail(CANNOT_STAND);
                return 0;
            }
            at++;
            return facts[fact];
        }
    }

    /** The hands and who quarrels with whom. */
    private static final class Crew {
        int count = 0;
        private final int[] arms = new int[MOST_HANDS];
        private final int[] foes = new int[MOST_HANDS];

        void begin() {
            count = 0;
            Arrays.fill(foes, 0);
        }

        void become(Crew other) {
            count = other.count;
            System.arraycopy(other.arms, 0, arms, 0, MOST_HANDS);
            System.arraycopy(other.foes, 0, foes, 0, MOST_HANDS);
        }

        int add(int strength) {
            if (strength < 1 || strength > 99 || count >= MOST_HANDS) {
                return NONE;
            }
            arms[count] = strength;
            count++;
            return count - 1;
        }

        boolean setFoes(int a, int b, boolean are) {
            if (a < 0 || a >= count || b < 0 || b >= count || a == b) {
                return false;
            }
            if (are) {
                foes[a] |= 1 << b;
                foes[b] |= 1 << a;
            } else {
                foes[a] &= ~(1 << b);
                foes[b] &= ~(1 << a);
            }
            return true;
        }

        int fewest(int weight) {
            int best = NONE;
            for (int set = 1; set < 1 << count; set++) {
                boolean fewer = best == NONE || Integer.bitCount(set) < Integer.bitCount(best);
                if (fewer && strengthOf(set) >= weight) {
                    best = set;
                }
            }
            return best;
        }

        /** Of the hands together; nothing, if two of them quarrel. */
        private int strengthOf(int set) {
            int sum = 0;
            for (int hand = 0; hand < count; hand++) {
                if ((set & 1 << hand) != 0) {
                    if ((foes[hand] & set) != 0) {
                        return 0;
                    }
                    sum += arms[hand];
                }
            }
            return sum;
        }
    }

    /** The winds and what the heights pay. */
    private static final class Sky {
        private final int[] chances = new int[MOST_HOURS * (MOST_HEIGHT + 1)];
        private final int[] rewards = new int[MOST_HEIGHT + 1];
        private final long[] values = new long[MOST_HEIGHT + 1];

        void begin() {
            Arrays.fill(chances, 0);
            Arrays.fill(rewards, 0);
        }

        void become(Sky other) {
            System.arraycopy(other.chances, 0, chances, 0, chances.length);
            System.arraycopy(other.rewards, 0, rewards, 0, rewards.length);
        }

        boolean setChance(int hour, int height, int chance) {
            boolean when = hour >= 0 && hour < MOST_HOURS;
            if (!when || height < 1 || height > MOST_HEIGHT || chance < 0 || chance > 10) {
                return false;
            }
            chances[hour * (MOST_HEIGHT + 1) + height] = chance;
            return true;
        }

        boolean setReward(int height, int v) {
            if (height < 0 || height > MOST_HEIGHT || v < 0 || v > 999) {
                return false;
            }
            rewards[height] = v;
            return true;
        }

        /** What it is worth from hour h with a height, or, if asked, 1 where going on is worth more than to stop. */
        long best(int n, int h, int height, boolean askGoes) {
            for (int i = 0; i <= MOST_HEIGHT; i++) {
                values[i] = rewards[i];
            }
            long parts = 1;
            boolean goes = false;
            for (int hour = n - 1; hour >= h; hour--) {
                for (int i = 0; i <= MOST_HEIGHT; i++) {
                    long stop = rewards[i] * parts * 10;
                    long go = i < MOST_HEIGHT ? goingOn(hour, i + 1, parts) : stop;
                    values[i] = Math.max(stop, go);
                    if (i == height) {
                        goes = go > stop;
                    }
                }
                parts *= 10;
            }
            if (askGoes) {
                return goes ? 1 : 0;
            }
            return values[height];
        }

        long odds(int n, int k) {
            long stays = 1;
            long all = 1;
            for (int hour = 0; hour < n; hour++) {
                stays *= 10 - chanceAt(hour, hour + 1);
                all *= 10;
            }
            if (k == 0) {
                return all;
            }
            return k <= n ? stays : 0;
        }

        /** The values still hold those of the hour behind this one for all heights from this one up. */
        private long goingOn(int hour, int height, long parts) {
            long chance = chanceAt(hour, height);
            return chance * rewards[0] * parts + (10 - chance) * values[height];
        }

        private int chanceAt(int hour, int height) {
            int i = hour * (MOST_HEIGHT + 1) + height;
            return i >= 0 && i < chances.length ? chances[i] : 0;
        }
    }

    /** The search for the fewest carries to a height. */
    private static final class Planner {
        private static final int MOST = 5;
        private static final int NO_COST = 1000000;
        private final int[] blocks = new int[MOST];
        private final int[] columns = new int[MOST];
        private final int[] bestBlocks = new int[MOST];
        private final int[] bestColumns = new int[MOST];
        private int goal = 0;
        private int carries = NONE;
        private int bestCost = 0;

        void seek(Tower trial, int height) {
            goal = height;
            carries = 0;
            bestCost = 0;
            int missing = goal - trial.tallest();
            if (missing <= 0) {
                return;
            }
            bestCost = NO_COST;
            // A carry makes the tower one higher at most.
            for (int most = missing; most <= MOST; most++) {
                carries = most;
                search(trial, 0, 0);
                if (bestCost < NO_COST) {
                    return;
                }
            }
            carries = NONE;
        }

        static boolean isAsked(int what) {
            return what == 0 || what == 1 || what >= 10 && what < 10 + MOST || what >= 20 && what < 20 + MOST;
        }

        int answer(int what) {
            if (what == 0 || carries == NONE) {
                return carries;
            }
            if (what == 1) {
                return bestCost;
            }
            int i = what < 20 ? what - 10 : what - 20;
            if (i < 0 || i >= carries || i >= MOST) {
                return NONE;
            }
            return what < 20 ? bestBlocks[i] : bestColumns[i];
        }

        private void search(Tower tower, int depth, int cost) {
            if (depth >= MOST) {
                return;
            }
            for (int block = 0; block < tower.count; block++) {
                if (tower.places[block] != NONE) {
                    for (int column = 0; column <= tower.width - tower.lengths[block]; column++) {
                        step(tower, depth, cost, block, column);
                    }
                }
            }
        }

        private void step(Tower tower, int depth, int cost, int block, int column) {
            int place = tower.places[block];
            int level = tower.levelFor(block, column);
            int total = cost + costOf(place, column, level);
            boolean last = depth == carries - 1;
            if (total >= bestCost || last && level + 1 < goal || cameLate(tower, depth, block, column)) {
                return;
            }
            if (tower.raise(block, column) != 0) {
                return;
            }
            blocks[depth] = block;
            columns[depth] = column;
            if (last) {
                keep(total);
            } else if (isHopeful(tower, depth + 1)) {
                search(tower, depth + 1, total);
            }
            tower.lift(block, place);
        }

        private void keep(int cost) {
            bestCost = cost;
            System.arraycopy(blocks, 0, bestBlocks, 0, MOST);
            System.arraycopy(columns, 0, bestColumns, 0, MOST);
        }

        /** Carries that share no column can change places: only the order with the lesser block first is tried. */
        private boolean cameLate(Tower tower, int depth, int block, int column) {
            for (int i = depth - 1; i >= 0; i--) {
                int other = blocks[i];
                boolean apart = column + tower.lengths[block] <= columns[i]
                        || columns[i] + tower.lengths[other] <= column;
                if (!apart) {
                    return false;
                }
                if (other > block) {
                    return true;
                }
            }
            return false;
        }

        /**
         * With the fewest carries each block but the last one has another carried one resting on it, else one could do
         * without it; a carry rests on as many as it is long.
         */
        private boolean isHopeful(Tower tower, int done) {
            int todo = carries - done;
            if (goal - tower.tallest() > todo) {
                return false;
            }
            int bare = 0;
            for (int i = 0; i < done && i < MOST; i++) {
                if (tower.isBare(blocks[i])) {
                    bare++;
                }
            }
            return bare - 1 <= todo * (longestInYard(tower) - 1);
        }

        private static int longestInYard(Tower tower) {
            int longest = 1;
            for (int block = 0; block < tower.count; block++) {
                if (tower.places[block] != NONE) {
                    longest = Math.max(longest, tower.lengths[block]);
                }
            }
            return longest;
        }
    }

    /** The search for the towers that would leave a set of blocks as they lie. */
    private static final class Finder {
        private final int[] blocks = new int[MOST_SET];
        private final int[] columns = new int[MOST_SET];
        private final int[] levels = new int[MOST_SET];
        private final int[] places = new int[MOST_SET];
        private final int[] firstColumns = new int[MOST_BLOCKS];
        private final int[] firstLevels = new int[MOST_BLOCKS];
        private int size = 0;
        private int found = 0;

        /** The trial has no block in its tower. */
        void seek(Tower trial, int set) {
            size = 0;
            found = 0;
            for (int block = 0; block < trial.count; block++) {
                if ((set & 1 << block) != 0 && size < MOST_SET) {
                    blocks[size] = block;
                    places[size] = trial.places[block];
                    size++;
                }
            }
            search(trial, 0);
        }

        static boolean isAsked(int set, int what) {
            int block = blockOf(what);
            return what == 0 || block != NONE && (set & 1 << block) != 0;
        }

        int answer(int what) {
            if (what == 0) {
                return found;
            }
            int block = blockOf(what);
            if (found == 0 || block == NONE) {
                return NONE;
            }
            return what < 30 ? firstColumns[block] : firstLevels[block];
        }

        private static int blockOf(int what) {
            if (what < 10 || what >= 30 + MOST_BLOCKS) {
                return NONE;
            }
            return what < 30 ? what - 10 : what - 30;
        }

        private void search(Tower tower, int i) {
            if (i >= size || i >= MOST_SET) {
                count(tower);
                return;
            }
            // The columns go upwards, so that the first tower found is the first one asked for.
            for (int column = 0; column <= tower.width - tower.lengths[blocks[i]]; column++) {
                int rise = places[i] - 10 - column;
                if (rise >= 0 && rise % 2 == 0 && rise / 2 < size) {
                    columns[i] = column;
                    levels[i] = rise / 2;
                    if (!isTaken(tower, i)) {
                        search(tower, i + 1);
                    }
                }
            }
        }

        private boolean isTaken(Tower tower, int i) {
            for (int j = 0; j < i; j++) {
                boolean apart = columns[i] + tower.lengths[blocks[i]] <= columns[j]
                        || columns[j] + tower.lengths[blocks[j]] <= columns[i];
                if (levels[i] == levels[j] && !apart) {
                    return true;
                }
            }
            return false;
        }

        private void count(Tower tower) {
            boolean stands = build(tower);
            if (stands) {
                tower.weigh();
                stands = tower.overloaded() == NONE;
            }
            for (int i = 0; i < size; i++) {
                tower.lift(blocks[i], places[i]);
            }
            if (!stands) {
                return;
            }
            found++;
            for (int i = 0; i < size && found == 1; i++) {
                firstColumns[blocks[i]] = columns[i];
                firstLevels[blocks[i]] = levels[i];
            }
        }

        /** Builds it level by level; answers whether each block came to its level and stands. */
        private boolean build(Tower tower) {
            for (int level = 0; level < size; level++) {
                for (int i = 0; i < size; i++) {
                    if (levels[i] == level) {
                        boolean belongs = tower.levelFor(blocks[i], columns[i]) == level;
                        if (!belongs || !tower.wouldStand(blocks[i], columns[i])) {
                            return false;
                        }
                        tower.drop(blocks[i], columns[i]);
                    }
                }
            }
            return true;
        }
    }
}
