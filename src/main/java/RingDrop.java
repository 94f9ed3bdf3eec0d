import java.util.NoSuchElementException;

/** Laws of drying, wants of a stain and drops told as texts, and a strip on which drops dry. */
public final class RingDrop {
    public static final int NONE = -1;
    public static final int HIDDEN = -100000;

    private static final int CELLS = 24;
    private static final int SORTS = 2;
    private static final int FORMULAS_MOST = 4;
    private static final int DROPS_MOST = 12;
    private static final int STAINS_MOST = 6;
    private static final int TAPE_MOST = 160;
    private static final int TICKS_MOST = 60;
    private static final int DRY_TICKS_MOST = 200;
    private static final int CAME_KEPT = 120;
    private static final int PACE_MOST = 99;
    private static final int BY_MOST = 99;
    private static final int GAP_MOST = 9;
    private static final int WEIGHT_MOST = 9;
    private static final int SEEDS_MOST = 20;
    private static final int TRY_MOST = 60;
    private static final int EDGE_BITS = 7;
    private static final int STAIN_MOST = 9999;

    private static final int LAW = 0;
    private static final int WANT = 1;
    private static final int DROP = 2;
    private static final int NO_SUCH_SORT = -2;

    // What of a drop, in the order of drop().
    private static final int X = 0;
    private static final int K = 1;
    private static final int W = 2;
    private static final int G = 3;
    private static final int L = 4;
    private static final int M = 5;
    private static final int A = 6;
    private static final int P = 7;
    private static final int C = 8;
    private static final int E = 9;
    private static final int J = 10;
    private static final int S = 11;
    private static final int WHATS = 12;
    private static final String DROP_LETTERS = "xkwglmapcejs";
    private static final int[] LOWEST = {0, 2, 1, 0, 0, 0, 0, 0, 1, 0, 1, 0};
    private static final int[] HIGHEST = {23, 24, 999, 999, 999, 99, 99, 100, 99, 99, 9, 9};
    private static final int[] WITHOUT = {0, 8, 300, 0, 0, 0, 0, 0, 5, 0, 1, 0};

    private static final String LAW_LETTERS = "iwgtmak";
    private static final String WANT_LETTERS = "ervnht";

    // What about() tells.
    private static final int ABOUT_RING = 0;
    private static final int ABOUT_RINGS = 1;
    private static final int ABOUT_EVEN = 2;
    private static final int ABOUT_LYING = 3;
    private static final int ABOUT_HEAPED = 4;
    private static final int ABOUT_TICKS = 5;
    private static final int ABOUT_GONE = 6;
    private static final int ABOUT_DROPS = 7;
    private static final int ABOUT_FREE = 8;
    private static final int ABOUT_WHATS = 9;

    // Codes of a formula; a code of 0 and above is the number itself, LETTER and below a letter.
    private static final int ADD = -1;
    private static final int SUBTRACT = -2;
    private static final int MULTIPLY = -3;
    private static final int DIVIDE = -4;
    private static final int EQUAL = -5;
    private static final int LESS = -6;
    private static final int MORE = -7;
    private static final int AND = -8;
    private static final int OR = -9;
    private static final int NOT = -10;
    private static final int SKIP_UNLESS = -11;
    private static final int STOP = -12;
    private static final int LETTER = -20;
    // No byte of a text makes more than one code, but for the end of a want.
    private static final int CODE_MOST = TAPE_MOST + 2;
    private static final int STACK_MOST = 32;
    private static final int NESTED_MOST = 6;
    private static final int DIGITS_MOST = 4;
    private static final long NUMBER_MOST = 1000000L;
    private static final int STIRRED_FROM = 50;

    private final Tape tape = new Tape();
    private final FormulaReader formulaReader = new FormulaReader(tape);
    private final DropReader dropReader = new DropReader(tape);
    private final Shelf laws = new Shelf();
    private final Shelf wants = new Shelf();
    private final int[][] drops = new int[DROPS_MOST][WHATS];
    private final int[] weights = new int[DROPS_MOST];
    private final int[] changed = new int[WHATS];
    private final int[][] stains = new int[STAINS_MOST][CELLS];
    private final int[] row = new int[CELLS];
    private final Strip strip = new Strip();
    private final Strip trial = new Strip();
    private final Strip kept = new Strip();
    private int dropCount;
    private int stainCount;
    private int paceNow = 3;
    private boolean imageThere;

    public RingDrop() {
        for (int i = 0; i < weights.length; i++) {
            weights[i] = 1;
        }
    }

    // ---- texts ----

    public int feed(int a, int b, int c, int d, int e) {
        int more = Tape.bytesIn(a) + Tape.bytesIn(b) + Tape.bytesIn(c) + Tape.bytesIn(d) + Tape.bytesIn(e);
        if (tape.length + more > TAPE_MOST) {
            return NONE;
        }
        tape.append(a);
        tape.append(b);
        tape.append(c);
        tape.append(d);
        tape.append(e);
        return tape.length;
    }

    public boolean end(int n) {
        if (n < 0 || n > tape.length) {
            return false;
        }
        tape.length = n;
        return true;
    }

    public int fault(int sort) {
        if (sort == LAW) {
            return formulaReader.faultOfLaw();
        }
        if (sort == WANT) {
            return formulaReader.faultOfWant();
        }
        if (sort == DROP) {
            return dropReader.faultOfDrop();
        }
        return NO_SUCH_SORT;
    }

    public int text(int sort) {
        if (fault(sort) != NONE) {
            return NONE;
        }
        int number = sort == DROP ? keepDrop() : (sort == LAW ? laws : wants).keep(formulaReader.read);
        if (number != NONE) {
            tape.length = 0;
        }
        return number;
    }

    private int keepDrop() {
        if (dropCount >= drops.length) {
            return NONE;
        }
        System.arraycopy(dropReader.told, 0, drops[dropCount], 0, WHATS);
        dropCount++;
        return dropCount - 1;
    }

    public int drop(int drop, int what) throws NoSuchElementException {
        if (!isDrop(drop) || what < 0 || what >= WHATS) {
            throw new NoSuchElementException();
        }
        return drops[drop][what];
    }

    public boolean pace(int v) {
        if (v < 0 || v > PACE_MOST) {
            return false;
        }
        paceNow = v;
        return true;
    }

    public boolean weigh(int drop, int weight) {
        if (!isDrop(drop) || weight < 1 || weight > WEIGHT_MOST) {
            return false;
        }
        weights[drop] = weight;
        return true;
    }

    public int count(int what) {
        switch (what) {
            case 0: return laws.size;
            case 1: return wants.size;
            case 2: return dropCount;
            case 3: return stainCount;
            case 4: return tape.length;
            case 5: return paceNow;
            default: return NONE;
        }
    }

    // ---- what is there ----

    private boolean isDrop(int drop) {
        return drop >= 0 && drop < dropCount && drop < drops.length;
    }

    private boolean isStain(int stain) {
        return stain >= 0 && stain < stainCount && stain < stains.length;
    }

    private boolean areDrops(int bits) {
        return bits >>> dropCount == 0;
    }

    private static boolean isCell(int cell) {
        return cell >= 0 && cell < CELLS;
    }

    private static boolean isSort(int sort) {
        return sort >= 0 && sort < SORTS;
    }

    private static boolean areTicks(int n) {
        return n >= 1 && n <= TICKS_MOST;
    }

    private static boolean has(int bits, int bit) {
        return (bits >> bit & 1) == 1;
    }

    // ---- the strip ----

    public int start(int law, int drops, long seed) {
        if (!canStart(law, drops)) {
            return NONE;
        }
        startOn(strip, law, drops, seed);
        return strip.bodyCount;
    }

    private boolean canStart(int law, int bits) {
        return laws.has(law) && bits != 0 && areDrops(bits) && areApart(bits);
    }

    private boolean areApart(int bits) {
        int taken = 0;
        for (int d = 0; d < dropCount; d++) {
            if (has(bits, d)) {
                int its = (1 << drops[d][K]) - 1 << drops[d][X];
                if ((taken & its) != 0) {
                    return false;
                }
                taken |= its;
            }
        }
        return true;
    }

    private void startOn(Strip s, int law, int bits, long seed) {
        s.clear(laws.at(law), seed);
        for (int cell = 0; cell < CELLS; cell++) {
            for (int d = 0; d < dropCount; d++) {
                if (has(bits, d) && drops[d][X] == cell) {
                    s.put(drops[d], d, cell);
                }
            }
        }
        s.begin();
    }

    public int tick(int n) {
        if (strip.law == null || !areTicks(n)) {
            return NONE;
        }
        return strip.goOn(n, paceNow);
    }

    public int body(int i, int what) {
        return strip.ofBody(i, what);
    }

    public int water(int cell) {
        return isCell(cell) ? strip.water[cell] : NONE;
    }

    public int free(int cell, int sort) {
        return isCell(cell) && isSort(sort) ? strip.free[sort][cell] : NONE;
    }

    public int lies(int cell, int sort) {
        return isCell(cell) && isSort(sort) ? strip.lying[sort][cell] : NONE;
    }

    public int heap(int cell, int what) {
        if (!isCell(cell) || what < 0 || what > 1) {
            return NONE;
        }
        return what == 1 ? strip.heaped[cell] : strip.lyingAt(cell) - strip.heaped[cell];
    }

    public int flow(int cell) {
        return isCell(cell) ? strip.flows[cell] : HIDDEN;
    }

    public int about(int what) {
        return strip.tell(what);
    }

    public int rush(int what) {
        if (strip.rushMost == 0) {
            return NONE;
        }
        return what == 0 ? strip.rushTick : what == 1 ? strip.rushMost : NONE;
    }

    public int speed() {
        return strip.outward;
    }

    public int came(int tick) {
        if (tick < 1 || tick > strip.ticks || tick > CAME_KEPT) {
            return NONE;
        }
        return strip.arrivals[tick - 1];
    }

    public int middle(int what) {
        if (what < 0 || what > 1 || strip.lyingAll() == 0) {
            return NONE;
        }
        return what == 0 ? strip.center() : strip.spread();
    }

    public int met(int want) {
        if (!wants.has(want)) {
            return NONE;
        }
        return isMetBy(strip, want) ? 1 : 0;
    }

    private boolean isMetBy(Strip s, int want) {
        s.tellWants();
        return wants.at(want).worth(s.letters) != 0;
    }

    public int image() {
        kept.copy(strip);
        imageThere = true;
        return strip.ticks;
    }

    public int back() {
        if (!imageThere) {
            return NONE;
        }
        strip.copy(kept);
        return strip.ticks;
    }

    // ---- what is tried ----

    /** Tries a drop, as its row tells it, alone: ready for its first tick. */
    private void lay(int law, int[] told, long seed) {
        trial.clear(laws.at(law), seed);
        trial.put(told, 0, told[X]);
        trial.begin();
    }

    private void tryAlone(int law, int[] told, long seed, int ticks) {
        lay(law, told, seed);
        trial.goOn(ticks, paceNow);
    }

    public int tried(int law, int drops, long seed, int ticks, int what) {
        if (!canStart(law, drops) || !areTicks(ticks) || what < 0 || what >= ABOUT_WHATS + CELLS) {
            return NONE;
        }
        startOn(trial, law, drops, seed);
        trial.goOn(ticks, paceNow);
        return what < ABOUT_WHATS ? trial.tell(what) : trial.lyingAt(what - ABOUT_WHATS);
    }

    private static boolean isTriedLetter(int letter) {
        return letter == G || letter == L || letter == M || letter == A || letter == P || letter == E;
    }

    public int least(int law, int drop, int letter, int want, long seed, int ticks) {
        if (!laws.has(law) || !isDrop(drop) || !isTriedLetter(letter) || !wants.has(want) || !areTicks(ticks)) {
            return NONE;
        }
        change(drop);
        return leastOfChanged(law, letter, want, seed, ticks);
    }

    private void change(int drop) {
        System.arraycopy(drops[drop], 0, changed, 0, WHATS);
    }

    private int leastOfChanged(int law, int letter, int want, long seed, int ticks) {
        for (int v = 0; v <= TRY_MOST; v++) {
            changed[letter] = v;
            tryAlone(law, changed, seed, ticks);
            if (isMetBy(trial, want)) {
                return v;
            }
        }
        return NONE;
    }

    public int line(int law, int drop, int one, int other, int number, int want, long seed, int ticks) {
        if (!laws.has(law) || !isDrop(drop) || !wants.has(want) || !areTicks(ticks)) {
            return NONE;
        }
        if (!isTriedLetter(one) || !isTriedLetter(other) || one == other || number < NONE || number > TRY_MOST) {
            return NONE;
        }
        change(drop);
        if (number != NONE) {
            changed[one] = number;
            return leastOfChanged(law, other, want, seed, ticks);
        }
        int bits = 0;
        for (int n = 0; n < EDGE_BITS; n++) {
            changed[one] = 10 * n;
            if (leastOfChanged(law, other, want, seed, ticks) != NONE) {
                bits |= 1 << n;
            }
        }
        return bits;
    }

    public int luck(int law, int drop, int want, long seed, int seeds, int ticks) {
        if (!laws.has(law) || !isDrop(drop) || !wants.has(want) || !areTicks(ticks)) {
            return NONE;
        }
        if (seeds < 1 || seeds > SEEDS_MOST) {
            return NONE;
        }
        int lucky = 0;
        for (int n = 0; n < seeds; n++) {
            tryAlone(law, drops[drop], seed + n, ticks);
            if (isMetBy(trial, want)) {
                lucky++;
            }
        }
        return lucky;
    }

    public int dry(int law, int drop, long seed) {
        if (!laws.has(law) || !isDrop(drop)) {
            return NONE;
        }
        tryAlone(law, drops[drop], seed, DRY_TICKS_MOST);
        return trial.bodyCount == 0 ? trial.ticks : NONE;
    }

    public int parts(int one, int other, int drop, long seed, int ticks) {
        if (!laws.has(one) || !laws.has(other) || !isDrop(drop) || !areTicks(ticks)) {
            return NONE;
        }
        return partsBy(one, other, drop, seed, ticks);
    }

    private int partsBy(int one, int other, int drop, long seed, int ticks) {
        tryAlone(one, drops[drop], seed, ticks);
        trial.writeLying(row);
        tryAlone(other, drops[drop], seed, ticks);
        return trial.offFrom(row);
    }

    public int next(int one, int other, int drops, long seed, int ticks) {
        if (!laws.has(one) || !laws.has(other) || drops == 0 || !areDrops(drops) || !areTicks(ticks)) {
            return NONE;
        }
        int best = NONE;
        int most = NONE;
        for (int d = 0; d < dropCount; d++) {
            if (has(drops, d)) {
                int apart = partsBy(one, other, d, seed, ticks);
                if (apart > most) {
                    most = apart;
                    best = d;
                }
            }
        }
        return best;
    }

    public int alike(int law, int one, int other, long seed, int ticks) {
        if (!laws.has(law) || !isDrop(one) || !isDrop(other) || !areTicks(ticks)) {
            return NONE;
        }
        tryAlone(law, drops[one], seed, ticks);
        trial.writeLying(row);
        tryAlone(law, drops[other], seed, ticks);
        int width = Math.max(drops[one][K], drops[other][K]);
        int same = 0;
        for (int i = 0; i < width; i++) {
            int a = drops[one][X] + i;
            int b = drops[other][X] + i;
            if ((isCell(a) ? row[a] : 0) == (isCell(b) ? trial.lyingAt(b) : 0)) {
                same++;
            }
        }
        return same;
    }

    // ---- prints ----

    public int printed(int law, int drop, int gap, long seed, int ticks, int what) {
        if (!laws.has(law) || !isDrop(drop) || !areTicks(ticks) || what < 0 || what > 1) {
            return NONE;
        }
        if (gap < 0 || gap > GAP_MOST) {
            return NONE;
        }
        int many = layPrint(law, drop, gap, seed);
        return what == 1 ? many : evenInTheEnd(ticks);
    }

    /** Puts a print on the trial's strip: how many drops it is of. */
    private int layPrint(int law, int drop, int gap, long seed) {
        int width = drops[drop][K];
        int many = 0;
        trial.clear(laws.at(law), seed);
        for (int cell = 0; cell + width <= CELLS && many < DROPS_MOST; cell += width + gap) {
            trial.put(drops[drop], many, cell);
            many++;
        }
        trial.begin();
        return many;
    }

    private int evenInTheEnd(int ticks) {
        trial.goOn(ticks, paceNow);
        return trial.even();
    }

    public int dots(int law, int drop, long seed, int ticks) {
        if (!laws.has(law) || !isDrop(drop) || !areTicks(ticks)) {
            return NONE;
        }
        int best = NONE;
        int fewest = 0;
        for (int gap = 0; gap <= GAP_MOST; gap++) {
            layPrint(law, drop, gap, seed);
            int even = evenInTheEnd(ticks);
            if (best == NONE || even < fewest) {
                best = gap;
                fewest = even;
            }
        }
        return best;
    }

    // ---- stains ----

    public int stain() {
        if (stainCount >= STAINS_MOST) {
            return NONE;
        }
        stainCount++;
        return stainCount - 1;
    }

    public boolean grain(int stain, int cell, int v) {
        if (!isStain(stain) || !isCell(cell) || v < 0 || v > STAIN_MOST) {
            return false;
        }
        stains[stain][cell] = v;
        return true;
    }

    public int print(int stain) {
        if (!isStain(stain)) {
            return NONE;
        }
        strip.writeLying(stains[stain]);
        return strip.lyingAll();
    }

    public int read(int stain, int law, int drops, long seed, int ticks, int by) {
        if (!isStain(stain) || !laws.has(law) || !areDrops(drops) || !areTicks(ticks) || by < 0 || by > BY_MOST) {
            return NONE;
        }
        int bits = 0;
        for (int d = 0; d < dropCount; d++) {
            if (has(drops, d)) {
                tryAlone(law, this.drops[d], seed, ticks);
                if (trial.farthestFrom(stains[stain]) <= by) {
                    bits |= 1 << d;
                }
            }
        }
        return bits;
    }

    public int odds(int stain, int law, int drops, long seed, int ticks, int by) {
        int bits = read(stain, law, drops, seed, ticks, by);
        if (bits == NONE) {
            return NONE;
        }
        int sum = 0;
        for (int d = 0; d < dropCount; d++) {
            if (has(bits, d)) {
                sum += weights[d];
            }
        }
        return sum;
    }

    public int turned(int stain, int other) {
        if (!isStain(stain) || !isStain(other)) {
            return NONE;
        }
        int unlike = 0;
        for (int i = 0; i < CELLS; i++) {
            if (stains[stain][i] != stains[other][CELLS - 1 - i]) {
                unlike++;
            }
        }
        return unlike;
    }

    public int join(int stain, int other) {
        if (!isStain(stain) || !isStain(other) || stain == other) {
            return NONE;
        }
        int all = 0;
        for (int i = 0; i < CELLS; i++) {
            stains[stain][i] = Math.min(STAIN_MOST, stains[stain][i] + stains[other][i]);
            all += stains[stain][i];
        }
        return all;
    }

    public int blot(int stain, int what) {
        if (!isStain(stain) || what < 0 || what > 2) {
            return NONE;
        }
        int blots = 0;
        int longest = 0;
        int fullest = 0;
        int width = 0;
        int grains = 0;
        for (int i = 0; i < CELLS; i++) {
            int here = stains[stain][i];
            if (here > 0 && width == 0) {
                blots++;
            }
            width = here > 0 ? width + 1 : 0;
            grains = here > 0 ? grains + here : 0;
            longest = Math.max(longest, width);
            fullest = Math.max(fullest, grains);
        }
        return what == 0 ? blots : what == 1 ? longest : fullest;
    }

    public int steps(int stain, int law, int drop, long seed, int what) {
        if (!isStain(stain) || !laws.has(law) || !isDrop(drop) || what < 0 || what > 1) {
            return NONE;
        }
        int tick = nearestTick(stain, law, drop, seed);
        return what == 0 ? tick : offBehind(stain, law, drop, seed, tick);
    }

    private int nearestTick(int stain, int law, int drop, long seed) {
        lay(law, drops[drop], seed);
        int best = 0;
        int least = 0;
        for (int n = 1; n <= TICKS_MOST && trial.bodyCount > 0; n++) {
            trial.goOn(1, paceNow);
            int off = trial.offFrom(stains[stain]);
            if (best == 0 || off < least) {
                best = n;
                least = off;
            }
        }
        return best;
    }

    private int offBehind(int stain, int law, int drop, long seed, int tick) {
        tryAlone(law, drops[drop], seed, tick);
        return trial.offFrom(stains[stain]);
    }

    public int saved(int stain, int law, int drops, long seed) {
        if (!isStain(stain) || !laws.has(law) || drops == 0 || !areDrops(drops)) {
            return NONE;
        }
        int best = NONE;
        int least = 0;
        for (int d = 0; d < dropCount; d++) {
            if (has(drops, d)) {
                int off = offBehind(stain, law, d, seed, nearestTick(stain, law, d, seed));
                if (best == NONE || off < least) {
                    best = d;
                    least = off;
                }
            }
        }
        return best;
    }

    // ---- classes inside ----

    /** The bytes that were fed. */
    private static final class Tape {
        final int[] bytes = new int[TAPE_MOST];
        int length;

        static int bytesIn(int number) {
            int n = 0;
            for (int shift = 24; shift >= 0; shift -= 8) {
                if ((number >>> shift & 255) != 0) {
                    n++;
                }
            }
            return n;
        }

        void append(int number) {
            for (int shift = 24; shift >= 0; shift -= 8) {
                int b = number >>> shift & 255;
                if (b != 0 && length < bytes.length) {
                    bytes[length] = b;
                    length++;
                }
            }
        }

        /** The byte there, or NONE behind the end. */
        int byteAt(int i) {
            return i >= 0 && i < length && i < bytes.length ? bytes[i] : NONE;
        }
    }

    /** A law or a want, in codes that a stack works off. */
    private static final class Formula {
        final int[] codes = new int[CODE_MOST];
        final int[] stack = new int[STACK_MOST];
        int length;

        void add(int code) {
            if (length < codes.length) {
                codes[length] = code;
                length++;
            }
        }

        /** Tells the skip whose number stands there how many codes it goes over: all that came since. */
        void endSkip(int at) {
            if (at >= 0 && at < length) {
                codes[at] = length - at - 1;
            }
        }

        void copy(Formula other) {
            System.arraycopy(other.codes, 0, codes, 0, CODE_MOST);
            length = other.length;
        }

        int worth(int[] letters) {
            int depth = 0;
            for (int at = 0; at < length && at < codes.length; at++) {
                int code = codes[at];
                if (code >= 0 || code <= LETTER) {
                    if (depth >= stack.length) {
                        return 0;
                    }
                    int letter = LETTER - code;
                    stack[depth] = code >= 0 ? code : letter < letters.length ? letters[letter] : 0;
                    depth++;
                    continue;
                }
                if (depth < 1 || depth > stack.length) {
                    return 0;
                }
                int top = stack[depth - 1];
                if (code == STOP) {
                    return top;
                }
                if (code == NOT) {
                    stack[depth - 1] = top == 0 ? 1 : 0;
                } else if (code == SKIP_UNLESS) {
                    depth--;
                    at++;
                    // Never back, so that the loop's end is plain here.
                    at += top == 0 && at < codes.length ? Math.max(0, codes[at]) : 0;
                } else if (depth < 2) {
                    return 0;
                } else {
                    depth--;
                    long v = joined(code, stack[depth - 1], top);
                    stack[depth - 1] = (int) Math.max(-NUMBER_MOST, Math.min(NUMBER_MOST, v));
                }
            }
            return 0;
        }

        private static long joined(int code, long a, long b) {
            switch (code) {
                case ADD: return a + b;
                case SUBTRACT: return a - b;
                case MULTIPLY: return a * b;
                case DIVIDE: return b == 0 ? 0 : a / b;
                case EQUAL: return a == b ? 1 : 0;
                case LESS: return a < b ? 1 : 0;
                case MORE: return a > b ? 1 : 0;
                case AND: return a & b;
                case OR: return a | b;
                default: return 0;
            }
        }
    }

    /** The laws, or the wants, that were kept. */
    private static final class Shelf {
        final Formula[] formulas = new Formula[FORMULAS_MOST];
        int size;

        Shelf() {
            for (int i = 0; i < formulas.length; i++) {
                formulas[i] = new Formula();
            }
        }

        boolean has(int i) {
            return i >= 0 && i < size && i < formulas.length;
        }

        /** Only for a number that has() knows. */
        Formula at(int i) {
            return formulas[has(i) ? i : 0];
        }

        int keep(Formula read) {
            if (size >= formulas.length) {
                return NONE;
            }
            formulas[size].copy(read);
            size++;
            return size - 1;
        }
    }

    /** Reads the tape as a law or a want; where a method answers false, at is the fault. */
    private static final class FormulaReader {
        final Tape tape;
        final Formula read = new Formula();
        String letters = LAW_LETTERS;
        int at;

        FormulaReader(Tape tape) {
            this.tape = tape;
        }

        int faultOfLaw() {
            open(LAW_LETTERS);
            boolean good = readClause();
            for (int n = 0; n < TAPE_MOST && good && goesOnWith(';'); n++) {
                good = readClause();
            }
            return good && nextByte() == NONE ? NONE : at;
        }

        int faultOfWant() {
            open(WANT_LETTERS);
            if (!readCondition(0, false)) {
                return at;
            }
            read.add(STOP);
            return nextByte() == NONE ? NONE : at;
        }

        private void open(String its) {
            letters = its;
            at = 0;
            read.length = 0;
        }

        /** The next byte that is no blank, NONE at the end; at is there then. */
        private int nextByte() {
            while (at < tape.length && tape.byteAt(at) == ' ') {
                at++;
            }
            return tape.byteAt(at);
        }

        private boolean goesOnWith(int sign) {
            if (nextByte() != sign) {
                return false;
            }
            at++;
            return true;
        }

        private boolean readClause() {
            if (!goesOnWith('y') || !goesOnWith(':')) {
                return false;
            }
            int b = nextByte();
            boolean sumFirst = b != '!' && b != '(';
            if (sumFirst && !readSum(0)) {
                return false;
            }
            if (sumFirst && !isComparison(nextByte())) {
                read.add(STOP);
                return true;
            }
            if (!readCondition(0, sumFirst) || !goesOnWith('?')) {
                return false;
            }
            read.add(SKIP_UNLESS);
            int skip = read.length;
            read.add(0);
            if (!readSum(0)) {
                return false;
            }
            read.add(STOP);
            read.endSkip(skip);
            return true;
        }

        /** With its first sum read already, if sumThere. */
        private boolean readCondition(int depth, boolean sumThere) {
            int truths = 0;
            for (int n = 0; n < TAPE_MOST; n++) {
                if (!readUnit(depth, sumThere && n == 0)) {
                    return false;
                }
                for (int m = 0; m < TAPE_MOST && goesOnWith('&'); m++) {
                    if (!readUnit(depth, false)) {
                        return false;
                    }
                    read.add(AND);
                }
                if (truths > 0) {
                    read.add(OR);
                }
                truths++;
                if (!goesOnWith('|')) {
                    return true;
                }
            }
            return true;
        }

        private boolean readUnit(int depth, boolean sumThere) {
            int nots = 0;
            while (!sumThere && nots + depth < NESTED_MOST && goesOnWith('!')) {
                nots++;
            }
            int inside = depth + nots;
            boolean good;
            if (!sumThere && inside < NESTED_MOST && goesOnWith('(')) {
                good = readCondition(inside + 1, false) && goesOnWith(')');
            } else {
                good = (sumThere || readSum(inside)) && readComparison(inside);
            }
            for (int n = 0; n < nots; n++) {
                read.add(NOT);
            }
            return good;
        }

        private boolean readComparison(int depth) {
            int b = nextByte();
            if (!isComparison(b)) {
                return false;
            }
            at++;
            if (!readSum(depth)) {
                return false;
            }
            read.add(b == '=' ? EQUAL : b == '<' ? LESS : MORE);
            return true;
        }

        private static boolean isComparison(int b) {
            return b == '=' || b == '<' || b == '>';
        }

        private boolean readSum(int depth) {
            int sign = NONE;
            for (int n = 0; n < TAPE_MOST; n++) {
                if (!readAtom(depth)) {
                    return false;
                }
                int b = nextByte();
                for (int m = 0; m < TAPE_MOST && (b == '*' || b == '/'); m++) {
                    at++;
                    if (!readAtom(depth)) {
                        return false;
                    }
                    read.add(b == '*' ? MULTIPLY : DIVIDE);
                    b = nextByte();
                }
                if (sign != NONE) {
                    read.add(sign == '+' ? ADD : SUBTRACT);
                }
                if (b != '+' && b != '-') {
                    return true;
                }
                sign = b;
                at++;
            }
            return true;
        }

        private boolean readAtom(int depth) {
            int b = nextByte();
            if (b >= '0' && b <= '9') {
                return readNumber();
            }
            if (b == '[' && depth < NESTED_MOST) {
                at++;
                return readSum(depth + 1) && goesOnWith(']');
            }
            int letter = b == NONE ? NONE : letters.indexOf((char) b);
            if (letter < 0) {
                return false;
            }
            at++;
            read.add(LETTER - letter);
            return true;
        }

        private boolean readNumber() {
            int v = 0;
            int b = tape.byteAt(at);
            for (int n = 0; n < DIGITS_MOST && b >= '0' && b <= '9'; n++) {
                v = v * 10 + b - '0';
                at++;
                b = tape.byteAt(at);
            }
            read.add(v);
            return b < '0' || b > '9';
        }
    }

    /** Reads the tape as a drop; where a method answers false, at is the fault. */
    private static final class DropReader {
        final Tape tape;
        final int[] told = new int[WHATS];
        int toldBits;
        int at;

        DropReader(Tape tape) {
            this.tape = tape;
        }

        int faultOfDrop() {
            at = 0;
            toldBits = 0;
            System.arraycopy(WITHOUT, 0, told, 0, WHATS);
            boolean good = readItem();
            for (int n = 0; n < WHATS && good && nextByte() == ','; n++) {
                at++;
                good = readItem();
            }
            if (!good || nextByte() != NONE) {
                return at;
            }
            return told[X] + told[K] > CELLS ? tape.length : NONE;
        }

        /** The next byte that is no blank, NONE at the end; at is there then. */
        private int nextByte() {
            while (at < tape.length && tape.byteAt(at) == ' ') {
                at++;
            }
            return tape.byteAt(at);
        }

        private boolean readItem() {
            int b = nextByte();
            int what = b == NONE ? NONE : DROP_LETTERS.indexOf((char) b);
            if (what < 0 || what >= WHATS || has(toldBits, what)) {
                return false;
            }
            toldBits |= 1 << what;
            at++;
            return readNumber(what);
        }

        private boolean readNumber(int what) {
            int v = 0;
            int digits = 0;
            int b = nextByte();
            while (digits < DIGITS_MOST && b >= '0' && b <= '9') {
                v = v * 10 + b - '0';
                digits++;
                at++;
                b = tape.byteAt(at);
            }
            if (digits == 0 || b >= '0' && b <= '9') {
                return false;
            }
            if (v < LOWEST[what] || v > HIGHEST[what]) {
                at--;
                return false;
            }
            told[what] = v;
            return true;
        }
    }

    /** A drop on a strip. */
    private static final class Body {
        final int[] made = new int[WHATS];
        int number;
        int first;
        int last;
        int lets;

        void become(int[] told, int itsNumber, int cell) {
            System.arraycopy(told, 0, made, 0, WHATS);
            number = itsNumber;
            first = cell;
            last = cell + told[K] - 1;
            lets = 0;
        }

        /** Takes in a drop that touches its last cell. */
        void takeIn(int[] told, int itsNumber) {
            int allWater = made[W] + told[W];
            int allRound = made[G] + told[G];
            int allLong = made[L] + told[L];
            if (itsNumber < number) {
                System.arraycopy(told, 0, made, 0, WHATS);
                number = itsNumber;
            }
            made[W] = allWater;
            made[G] = allRound;
            made[L] = allLong;
            last += told[K];
        }

        void copy(Body other) {
            System.arraycopy(other.made, 0, made, 0, WHATS);
            number = other.number;
            first = other.first;
            last = other.last;
            lets = other.lets;
        }

        int width() {
            return last - first + 1;
        }

        /** The weight of a cell in the shape that its water takes. */
        int weightOf(int cell) {
            int in = cell - first;
            return (in + 1) * (last - cell + 1) * (10 + made[S] * in);
        }
    }

    /** A strip, the drops on it and what has been on it since its start. */
    private static final class Strip {
        final int[] water = new int[CELLS];
        // Within a tick alone: the water ahead of its shape, how many came to lie, what letters stand for.
        final int[] before = new int[CELLS];
        final int[] letters = new int[LAW_LETTERS.length()];
        int arrived;
        final int[][] free = new int[SORTS][CELLS];
        final int[][] lying = new int[SORTS][CELLS];
        final int[] heaped = new int[CELLS];
        final int[] flows = new int[CELLS];
        // As many as there were ticks; what is behind these is of an earlier start.
        final int[] arrivals = new int[CAME_KEPT];
        final Body[] bodies = new Body[DROPS_MOST];
        int bodyCount;
        // Bits of the cells that were a drop's, and those that were a drop's first or last, at the start.
        int startCells;
        int startEnds;
        Formula law;
        long x;
        int ticks;
        int gone;
        int outward;
        int rushTick;
        int rushMost;

        Strip() {
            for (int i = 0; i < bodies.length; i++) {
                bodies[i] = new Body();
            }
        }

        void clear(Formula itsLaw, long seed) {
            for (int i = 0; i < CELLS; i++) {
                water[i] = 0;
                heaped[i] = 0;
                flows[i] = 0;
                for (int sort = 0; sort < SORTS; sort++) {
                    free[sort][i] = 0;
                    lying[sort][i] = 0;
                }
            }
            bodyCount = 0;
            startCells = 0;
            startEnds = 0;
            law = itsLaw;
            x = seed;
            ticks = 0;
            gone = 0;
            outward = 0;
            rushTick = 0;
            rushMost = 0;
        }

        /** Puts a drop from that cell on; drops are put from the left, and fit. */
        void put(int[] told, int number, int cell) {
            if (bodyCount > 0 && bodies[bodyCount - 1].last + 1 == cell) {
                bodies[bodyCount - 1].takeIn(told, number);
            } else if (bodyCount < bodies.length) {
                bodies[bodyCount].become(told, number, cell);
                bodyCount++;
            }
        }

        void begin() {
            for (int i = 0; i < bodyCount; i++) {
                Body b = bodies[i];
                for (int cell = b.first; cell <= b.last; cell++) {
                    startCells |= 1 << cell;
                }
                startEnds |= 1 << b.first | 1 << b.last;
                shape(b, b.made[W]);
                layOut(b, 0, b.made[G]);
                layOut(b, 1, b.made[L]);
            }
        }

        private void layOut(Body b, int sort, int grains) {
            int width = b.width();
            if (width < 1) {
                return;
            }
            for (int cell = b.first; cell <= b.last; cell++) {
                int in = cell - b.first;
                free[sort][cell] = grains / width + (in < grains % width ? 1 : 0);
            }
        }

        private void shape(Body b, int all) {
            int weights = 0;
            for (int cell = b.first; cell <= b.last; cell++) {
                weights += b.weightOf(cell);
            }
            if (weights < 1) {
                return;
            }
            int left = all;
            for (int cell = b.first; cell <= b.last; cell++) {
                water[cell] = all * b.weightOf(cell) / weights;
                left -= water[cell];
            }
            for (int cell = b.first; cell <= b.last && left > 0; cell++) {
                water[cell]++;
                left--;
            }
        }

        private int waterOf(Body b) {
            int all = 0;
            for (int cell = b.first; cell <= b.last; cell++) {
                all += water[cell];
            }
            return all;
        }

        /** Ticks so many times, as long as a drop is there: how many times. */
        int goOn(int n, int pace) {
            int done = 0;
            while (done < n && bodyCount > 0) {
                oneTick(pace);
                done++;
            }
            return done;
        }

        private void oneTick(int pace) {
            arrived = 0;
            outward = 0;
            for (int i = 0; i < CELLS; i++) {
                flows[i] = 0;
            }
            for (int i = 0; i < bodyCount; i++) {
                Body b = bodies[i];
                evaporate(b);
                letGo(b, pace);
                reshape(b);
                carryAll(b);
                stir(b);
                wander(b);
                layDown(b, pace);
            }
            if (ticks < arrivals.length) {
                arrivals[ticks] = arrived;
            }
            ticks++;
            if (arrived > rushMost) {
                rushMost = arrived;
                rushTick = ticks;
            }
            dropTheDry();
        }

        private void evaporate(Body b) {
            if (law == null) {
                return;
            }
            // In the order of LAW_LETTERS.
            letters[3] = ticks;
            letters[4] = b.made[M];
            letters[5] = b.made[A];
            letters[6] = b.width();
            for (int cell = b.first; cell <= b.last; cell++) {
                letters[0] = Math.min(cell - b.first, b.last - cell);
                letters[1] = water[cell];
                letters[2] = free[0][cell] + free[1][cell];
                int loss = Math.max(0, Math.min(water[cell], law.worth(letters)));
                loss -= loss * b.made[A] / 100;
                water[cell] -= loss;
                gone += loss;
            }
        }

        private void letGo(Body b, int pace) {
            int jump = b.made[J];
            if (waterOf(b) >= b.made[E] * b.width() || b.width() <= 2 * jump + 1) {
                return;
            }
            for (int n = 0; n < jump; n++) {
                lieDown(b.first, free[0][b.first], free[1][b.first], pace);
                lieDown(b.last, free[0][b.last], free[1][b.last], pace);
                water[b.first + 1] += water[b.first];
                water[b.last - 1] += water[b.last];
                water[b.first] = 0;
                water[b.last] = 0;
                b.first++;
                b.last--;
            }
            b.lets++;
        }

        private void lieDown(int cell, int round, int lengthy, int pace) {
            free[0][cell] -= round;
            free[1][cell] -= lengthy;
            lying[0][cell] += round;
            lying[1][cell] += lengthy;
            int both = round + lengthy;
            if (both > pace) {
                heaped[cell] += both;
            }
            arrived += both;
        }

        private void reshape(Body b) {
            for (int cell = b.first; cell <= b.last; cell++) {
                before[cell] = water[cell];
            }
            shape(b, waterOf(b));
            int more = 0;
            for (int cell = b.first; cell < b.last; cell++) {
                more += before[cell] - water[cell];
                flows[cell] = more;
                // Both cells nearer to the last, or as near; then both nearer to the first, or as near.
                if (more > 0 && 2 * cell >= b.first + b.last) {
                    outward += more;
                } else if (more < 0 && 2 * (cell + 1) <= b.first + b.last) {
                    outward -= more;
                }
            }
        }

        private void carryAll(Body b) {
            int share = 100 - b.made[P];
            for (int cell = b.first; cell < b.last; cell++) {
                if (flows[cell] > 0) {
                    carry(cell, cell + 1, flows[cell], share);
                } else if (flows[cell] < 0) {
                    carry(cell + 1, cell, -flows[cell], share);
                }
            }
        }

        private void carry(int from, int to, int much, int share) {
            int lengthy = free[1][from];
            boolean held = lengthy > 0 && 10 * lengthy >= free[0][from] + lengthy;
            if (before[from] < 1 || held) {
                return;
            }
            for (int sort = 0; sort < SORTS; sort++) {
                int all = free[sort][from];
                int going = Math.min(all, all * much / before[from]) * share / 100;
                free[sort][from] -= going;
                free[sort][to] += going;
            }
        }

        private void stir(Body b) {
            if (b.made[M] < STIRRED_FROM) {
                return;
            }
            for (int cell = b.first; cell < b.last; cell++) {
                for (int sort = 0; sort < SORTS; sort++) {
                    // Cut towards 0, so from either side as many go.
                    int going = (free[sort][cell] - free[sort][cell + 1]) / 2;
                    free[sort][cell] -= going;
                    free[sort][cell + 1] += going;
                }
            }
        }

        private void wander(Body b) {
            for (int cell = b.first; cell <= b.last; cell++) {
                x = x * 6364136223846793005L + 1442695040888963407L;
                int draw = (int) ((x >>> 33) % 4);
                int to = draw == 1 ? cell - 1 : draw == 2 ? cell + 1 : cell;
                if (free[0][cell] > 0 && to >= b.first && to <= b.last) {
                    free[0][cell]--;
                    free[0][to]++;
                }
            }
        }

        private void layDown(Body b, int pace) {
            for (int cell = b.first; cell <= b.last; cell++) {
                int more = free[0][cell] + free[1][cell] - water[cell] * b.made[C] / 10;
                if (more > 0) {
                    int round = Math.min(more, free[0][cell]);
                    lieDown(cell, round, more - round, pace);
                }
            }
        }

        private void dropTheDry() {
            int stay = 0;
            for (int i = 0; i < bodyCount; i++) {
                Body b = bodies[i];
                if (waterOf(b) > 0) {
                    bodies[i] = bodies[stay];
                    bodies[stay] = b;
                    stay++;
                }
            }
            bodyCount = stay;
        }

        int ofBody(int i, int what) {
            if (i < 0 || i >= bodyCount || i >= bodies.length) {
                return NONE;
            }
            Body b = bodies[i];
            switch (what) {
                case 0: return b.first;
                case 1: return b.last;
                case 2: return waterOf(b);
                case 3: return b.lets;
                default: return NONE;
            }
        }

        int tell(int what) {
            switch (what) {
                case ABOUT_RING: return ring();
                case ABOUT_RINGS: return rings();
                case ABOUT_EVEN: return even();
                case ABOUT_LYING: return lyingAll();
                case ABOUT_HEAPED: return heapedAll();
                case ABOUT_TICKS: return ticks;
                case ABOUT_GONE: return gone;
                case ABOUT_DROPS: return bodyCount;
                case ABOUT_FREE: return freeAll();
                default: return NONE;
            }
        }

        /** The letters of a want stand in the order of tell(). */
        void tellWants() {
            for (int i = 0; i < WANT_LETTERS.length() && i < letters.length; i++) {
                letters[i] = tell(i);
            }
        }

        int lyingAt(int cell) {
            return cell >= 0 && cell < CELLS ? lying[0][cell] + lying[1][cell] : 0;
        }

        int lyingAll() {
            int all = 0;
            for (int cell = 0; cell < CELLS; cell++) {
                all += lyingAt(cell);
            }
            return all;
        }

        private int heapedAll() {
            int all = 0;
            for (int cell = 0; cell < CELLS; cell++) {
                all += heaped[cell];
            }
            return all;
        }

        private int freeAll() {
            int all = 0;
            for (int cell = 0; cell < CELLS; cell++) {
                all += free[0][cell] + free[1][cell];
            }
            return all;
        }

        private int ring() {
            int all = 0;
            int atEnds = 0;
            for (int cell = 0; cell < CELLS; cell++) {
                all += lyingAt(cell);
                atEnds += has(startEnds, cell) ? lyingAt(cell) : 0;
            }
            return all == 0 ? 0 : atEnds * 100 / all;
        }

        private int rings() {
            int n = 0;
            for (int cell = 0; cell < CELLS; cell++) {
                int here = lyingAt(cell);
                if (here > lyingAt(cell - 1) && here > lyingAt(cell + 1)) {
                    n++;
                }
            }
            return n;
        }

        int even() {
            int most = NONE;
            int fewest = 0;
            for (int cell = 0; cell < CELLS; cell++) {
                if (has(startCells, cell)) {
                    int here = lyingAt(cell);
                    fewest = most == NONE ? here : Math.min(fewest, here);
                    most = Math.max(most, here);
                }
            }
            return most == NONE ? 0 : most - fewest;
        }

        /** Only when grains lie. */
        int center() {
            int all = lyingAll();
            int sum = 0;
            for (int cell = 0; cell < CELLS; cell++) {
                sum += 10 * cell * lyingAt(cell);
            }
            return all == 0 ? NONE : sum / all;
        }

        int spread() {
            int from = center() / 10;
            int sum = 0;
            for (int cell = 0; cell < CELLS; cell++) {
                sum += Math.abs(cell - from) * lyingAt(cell);
            }
            return sum;
        }

        void writeLying(int[] into) {
            for (int cell = 0; cell < CELLS && cell < into.length; cell++) {
                into[cell] = lyingAt(cell);
            }
        }

        /** How many lie otherwise than told, cell by cell, together. */
        int offFrom(int[] told) {
            int sum = 0;
            for (int cell = 0; cell < CELLS && cell < told.length; cell++) {
                sum += Math.abs(lyingAt(cell) - told[cell]);
            }
            return sum;
        }

        /** How many lie otherwise than told in the cell where these are the most. */
        int farthestFrom(int[] told) {
            int most = 0;
            for (int cell = 0; cell < CELLS && cell < told.length; cell++) {
                most = Math.max(most, Math.abs(lyingAt(cell) - told[cell]));
            }
            return most;
        }

        void copy(Strip other) {
            System.arraycopy(other.water, 0, water, 0, CELLS);
            System.arraycopy(other.heaped, 0, heaped, 0, CELLS);
            System.arraycopy(other.flows, 0, flows, 0, CELLS);
            System.arraycopy(other.arrivals, 0, arrivals, 0, CAME_KEPT);
            for (int sort = 0; sort < SORTS; sort++) {
                System.arraycopy(other.free[sort], 0, free[sort], 0, CELLS);
                System.arraycopy(other.lying[sort], 0, lying[sort], 0, CELLS);
            }
            for (int i = 0; i < other.bodyCount && i < bodies.length; i++) {
                bodies[i].copy(other.bodies[i]);
            }
            bodyCount = other.bodyCount;
            startCells = other.startCells;
            startEnds = other.startEnds;
            law = other.law;
            x = other.x;
            ticks = other.ticks;
            gone = other.gone;
            outward = other.outward;
            rushTick = other.rushTick;
            rushMost = other.rushMost;
        }
    }
}
