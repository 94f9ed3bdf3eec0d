import java.util.ArrayList;
import java.util.Arrays;
import java.util.HashMap;
import java.util.List;
import java.util.Map;
import java.util.NoSuchElementException;
import java.util.TreeSet;

/** The document once more, written apart from the class and without its care: tests compare the two. */
final class Model {
    static final String WHATS = "xkwglmapcejs";
    static final int[][] BOUNDS = {{0, 23, 0}, {2, 24, 8}, {1, 999, 300}, {0, 999, 0}, {0, 999, 0}, {0, 99, 0},
        {0, 99, 0}, {0, 100, 0}, {1, 99, 5}, {0, 99, 0}, {1, 9, 1}, {0, 9, 0}};

    String tape = "";
    final List<String> laws = new ArrayList<>();
    final List<String> wants = new ArrayList<>();
    final List<Map<Character, Integer>> drops = new ArrayList<>();
    final List<Integer> weights = new ArrayList<>();
    final List<int[]> stains = new ArrayList<>();
    int pace = 3;
    Ground ground = new Ground();
    Ground image;

    // ---- grammar: sets of places behind what can be read; open: more could be read at the end ----

    static final class Grammar {
        final String text;
        final String letters;
        boolean open;

        Grammar(String text, String letters) {
            this.text = text;
            this.letters = letters;
        }

        TreeSet<Integer> blanks(TreeSet<Integer> from) {
            TreeSet<Integer> to = new TreeSet<>();
            for (int i : from) {
                to.add(i);
                for (int j = i; j < text.length() && text.charAt(j) == ' '; j++) {
                    to.add(j + 1);
                }
            }
            return to;
        }

        TreeSet<Integer> one(TreeSet<Integer> from, String of) {
            TreeSet<Integer> to = new TreeSet<>();
            for (int i : blanks(from)) {
                if (i == text.length()) {
                    open = true;
                } else if (of.indexOf(text.charAt(i)) >= 0) {
                    to.add(i + 1);
                }
            }
            return to;
        }

        TreeSet<Integer> number(TreeSet<Integer> from) {
            TreeSet<Integer> to = new TreeSet<>();
            for (int i : blanks(from)) {
                for (int n = 0; n <= 4; n++) {
                    if (n > 0 && (i + n >= text.length() || !Character.isDigit(text.charAt(i + n)))) {
                        to.add(i + n);
                    }
                    if (n == 4) {
                        break;
                    }
                    if (i + n >= text.length()) {
                        open = true;
                        break;
                    }
                    if (text.charAt(i + n) < '0' || text.charAt(i + n) > '9') {
                        break;
                    }
                }
            }
            return to;
        }

        TreeSet<Integer> atom(TreeSet<Integer> from, int left) {
            TreeSet<Integer> to = number(from);
            to.addAll(one(from, letters));
            if (left > 0) {
                TreeSet<Integer> in = one(from, "[");
                if (!in.isEmpty()) {
                    to.addAll(one(sum(in, left - 1), "]"));
                }
            }
            return to;
        }

        TreeSet<Integer> term(TreeSet<Integer> from, int left) {
            TreeSet<Integer> all = new TreeSet<>();
            TreeSet<Integer> now = atom(from, left);
            while (!now.isEmpty()) {
                all.addAll(now);
                TreeSet<Integer> behind = one(now, "*/");
                now = behind.isEmpty() ? behind : atom(behind, left);
            }
            return all;
        }

        TreeSet<Integer> sum(TreeSet<Integer> from, int left) {
            TreeSet<Integer> all = new TreeSet<>();
            TreeSet<Integer> now = term(from, left);
            while (!now.isEmpty()) {
                all.addAll(now);
                TreeSet<Integer> behind = one(now, "+-");
                now = behind.isEmpty() ? behind : term(behind, left);
            }
            return all;
        }

        TreeSet<Integer> unit(TreeSet<Integer> from, int left) {
            TreeSet<Integer> to = new TreeSet<>();
            TreeSet<Integer> sign = one(sum(from, left), "=<>");
            if (!sign.isEmpty()) {
                to.addAll(sum(sign, left));
            }
            if (left > 0) {
                TreeSet<Integer> in = one(from, "!");
                if (!in.isEmpty()) {
                    to.addAll(unit(in, left - 1));
                }
                in = one(from, "(");
                if (!in.isEmpty()) {
                    to.addAll(one(condition(in, left - 1), ")"));
                }
            }
            return to;
        }

        TreeSet<Integer> truth(TreeSet<Integer> from, int left) {
            TreeSet<Integer> all = new TreeSet<>();
            TreeSet<Integer> now = unit(from, left);
            while (!now.isEmpty()) {
                all.addAll(now);
                TreeSet<Integer> behind = one(now, "&");
                now = behind.isEmpty() ? behind : unit(behind, left);
            }
            return all;
        }

        TreeSet<Integer> condition(TreeSet<Integer> from, int left) {
            TreeSet<Integer> all = new TreeSet<>();
            TreeSet<Integer> now = truth(from, left);
            while (!now.isEmpty()) {
                all.addAll(now);
                TreeSet<Integer> behind = one(now, "|");
                now = behind.isEmpty() ? behind : truth(behind, left);
            }
            return all;
        }

        TreeSet<Integer> law() {
            TreeSet<Integer> all = new TreeSet<>();
            TreeSet<Integer> now = new TreeSet<>(List.of(0));
            while (!now.isEmpty()) {
                now = one(now, "y");
                now = now.isEmpty() ? now : one(now, ":");
                if (now.isEmpty()) {
                    break;
                }
                TreeSet<Integer> asked = one(condition(now, 6), "?");
                TreeSet<Integer> read = sum(now, 6);
                if (!asked.isEmpty()) {
                    read.addAll(sum(asked, 6));
                }
                all.addAll(read);
                now = one(read, ";");
            }
            return all;
        }

        /** 2: it is one; 1: it can go on; 0: it cannot. */
        int asLaw() {
            return told(law());
        }

        int asWant() {
            return told(condition(new TreeSet<>(List.of(0)), 6));
        }

        private int told(TreeSet<Integer> ends) {
            return blanks(ends).contains(text.length()) ? 2 : open ? 1 : 0;
        }
    }

    static int formulaFault(String text, boolean law) {
        for (int n = 1; n <= text.length(); n++) {
            Grammar g = new Grammar(text.substring(0, n), law ? "iwgtmak" : "ervnht");
            if ((law ? g.asLaw() : g.asWant()) == 0) {
                return n - 1;
            }
        }
        Grammar g = new Grammar(text, law ? "iwgtmak" : "ervnht");
        return (law ? g.asLaw() : g.asWant()) == 2 ? -1 : text.length();
    }

    static int dropFault(String text, Map<Character, Integer> into) {
        for (int i = 0; i < 12; i++) {
            into.put(WHATS.charAt(i), BOUNDS[i][2]);
        }
        String seen = "";
        int i = 0;
        while (true) {
            while (i < text.length() && text.charAt(i) == ' ') {
                i++;
            }
            if (i == text.length() || WHATS.indexOf(text.charAt(i)) < 0 || seen.indexOf(text.charAt(i)) >= 0) {
                return i;
            }
            char letter = text.charAt(i++);
            seen += letter;
            while (i < text.length() && text.charAt(i) == ' ') {
                i++;
            }
            String digits = "";
            while (i < text.length() && text.charAt(i) >= '0' && text.charAt(i) <= '9') {
                digits += text.charAt(i++);
                if (digits.length() == 5) {
                    return i - 1;
                }
            }
            if (digits.isEmpty()) {
                return i;
            }
            int v = Integer.parseInt(digits);
            int[] bounds = BOUNDS[WHATS.indexOf(letter)];
            if (v < bounds[0] || v > bounds[1]) {
                return i - 1;
            }
            into.put(letter, v);
            while (i < text.length() && text.charAt(i) == ' ') {
                i++;
            }
            if (i == text.length()) {
                return into.get('x') + into.get('k') > 24 ? text.length() : -1;
            }
            if (text.charAt(i) != ',') {
                return i;
            }
            i++;
        }
    }

    // ---- worth of a text that has no fault: split at the outermost signs ----

    static int lastOuter(String s, String signs) {
        int depth = 0;
        for (int i = s.length() - 1; i >= 0; i--) {
            char c = s.charAt(i);
            if (c == ']' || c == ')') {
                depth++;
            } else if (c == '[' || c == '(') {
                depth--;
            } else if (depth == 0 && signs.indexOf(c) >= 0) {
                return i;
            }
        }
        return -1;
    }

    static long value(String s, Map<Character, Integer> letters) {
        int at = lastOuter(s, "+-");
        if (at < 0) {
            at = lastOuter(s, "*/");
        }
        if (at < 0) {
            if (s.charAt(0) == '[') {
                return value(s.substring(1, s.length() - 1), letters);
            }
            return Character.isDigit(s.charAt(0)) ? Integer.parseInt(s) : letters.get(s.charAt(0));
        }
        long a = value(s.substring(0, at), letters);
        long b = value(s.substring(at + 1), letters);
        long v = switch (s.charAt(at)) {
            case '+' -> a + b;
            case '-' -> a - b;
            case '*' -> a * b;
            default -> b == 0 ? 0 : a / b;
        };
        return Math.max(-1000000, Math.min(1000000, v));
    }

    static boolean holds(String s, Map<Character, Integer> letters) {
        int at = lastOuter(s, "|");
        if (at >= 0) {
            return holds(s.substring(0, at), letters) | holds(s.substring(at + 1), letters);
        }
        at = lastOuter(s, "&");
        if (at >= 0) {
            return holds(s.substring(0, at), letters) & holds(s.substring(at + 1), letters);
        }
        if (s.charAt(0) == '!') {
            return !holds(s.substring(1), letters);
        }
        if (s.charAt(0) == '(') {
            return holds(s.substring(1, s.length() - 1), letters);
        }
        at = lastOuter(s, "=<>");
        long a = value(s.substring(0, at), letters);
        long b = value(s.substring(at + 1), letters);
        return s.charAt(at) == '=' ? a == b : s.charAt(at) == '<' ? a < b : a > b;
    }

    static long worth(String law, Map<Character, Integer> letters) {
        for (String clause : law.split(";")) {
            String rest = clause.substring(2);
            int asked = rest.indexOf('?');
            if (asked < 0) {
                return value(rest, letters);
            }
            if (holds(rest.substring(0, asked), letters)) {
                return value(rest.substring(asked + 1), letters);
            }
        }
        return 0;
    }

    // ---- the strip ----

    static final class Blob {
        Map<Character, Integer> as;
        int from;
        int to;
        int lets;
        int lowest;
        int water;
        int round;
        int lengthy;

        Blob again() {
            Blob b = new Blob();
            b.as = as;
            b.from = from;
            b.to = to;
            b.lets = lets;
            return b;
        }
    }

    static final class Ground {
        String law;
        long x;
        List<Blob> blobs = new ArrayList<>();
        int[] water = new int[24];
        int[] round = new int[24];
        int[] lengthy = new int[24];
        int[] lyingRound = new int[24];
        int[] lyingLong = new int[24];
        int[] rows = new int[24];
        int[] heap = new int[24];
        int[] flow = new int[24];
        boolean[] was = new boolean[24];
        boolean[] end = new boolean[24];
        List<Integer> came = new ArrayList<>();
        int gone;
        int speed;

        Ground again() {
            Ground g = new Ground();
            g.law = law;
            g.x = x;
            for (Blob b : blobs) {
                g.blobs.add(b.again());
            }
            g.water = water.clone();
            g.round = round.clone();
            g.lengthy = lengthy.clone();
            g.lyingRound = lyingRound.clone();
            g.lyingLong = lyingLong.clone();
            g.rows = rows.clone();
            g.heap = heap.clone();
            g.flow = flow.clone();
            g.was = was.clone();
            g.end = end.clone();
            g.came = new ArrayList<>(came);
            g.gone = gone;
            g.speed = speed;
            return g;
        }

        int lie(int c) {
            return c < 0 || c > 23 ? 0 : lyingRound[c] + lyingLong[c];
        }

        int[] lie() {
            int[] all = new int[24];
            for (int c = 0; c < 24; c++) {
                all[c] = lie(c);
            }
            return all;
        }

        static int[] shape(int all, Blob b) {
            int l = b.from;
            int r = b.to;
            long[] weight = new long[24];
            long sum = 0;
            for (int i = l; i <= r; i++) {
                weight[i] = (long) (i - l + 1) * (r - i + 1) * (10 + b.as.get('s') * (i - l));
                sum += weight[i];
            }
            int[] to = new int[24];
            int left = all;
            for (int i = l; i <= r; i++) {
                to[i] = (int) (all * weight[i] / sum);
                left -= to[i];
            }
            for (int i = l; left > 0; i = i == r ? l : i + 1) {
                to[i]++;
                left--;
            }
            return to;
        }

        static Ground started(String law, long seed, List<Blob> put) {
            Ground g = new Ground();
            g.law = law;
            g.x = seed;
            List<Blob> sorted = new ArrayList<>(put);
            sorted.sort((a, b) -> a.from - b.from);
            for (Blob b : sorted) {
                Blob before = g.blobs.isEmpty() ? null : g.blobs.get(g.blobs.size() - 1);
                if (before != null && before.to + 1 == b.from) {
                    if (b.lowest < before.lowest) {
                        before.lowest = b.lowest;
                        before.as = b.as;
                    }
                    before.to = b.to;
                    before.water += b.water;
                    before.round += b.round;
                    before.lengthy += b.lengthy;
                } else {
                    g.blobs.add(b);
                }
            }
            for (Blob b : g.blobs) {
                int[] shaped = shape(b.water, b);
                for (int i = b.from; i <= b.to; i++) {
                    g.water[i] = shaped[i];
                    g.was[i] = true;
                }
                g.end[b.from] = true;
                g.end[b.to] = true;
                int width = b.to - b.from + 1;
                for (int n = 0; n < b.round; n++) {
                    g.round[b.from + n % width]++;
                }
                for (int n = 0; n < b.lengthy; n++) {
                    g.lengthy[b.from + n % width]++;
                }
            }
            return g;
        }

        int go(int n, int pace) {
            int done = 0;
            for (; done < n && !blobs.isEmpty(); done++) {
                tick(pace);
            }
            return done;
        }

        int drawOf4() {
            x = x * 6364136223846793005L + 1442695040888963407L;
            return (int) Long.remainderUnsigned(x >>> 33, 4);
        }

        void tick(int pace) {
            flow = new int[24];
            speed = 0;
            int[] downRound = new int[24];
            int[] downLong = new int[24];
            for (Blob b : blobs) {
                int width = b.to - b.from + 1;
                Map<Character, Integer> letters = new HashMap<>();
                for (int i = b.from; i <= b.to; i++) {
                    letters.put('i', Math.min(i - b.from, b.to - i));
                    letters.put('w', water[i]);
                    letters.put('g', round[i] + lengthy[i]);
                    letters.put('t', came.size());
                    letters.put('m', b.as.get('m'));
                    letters.put('a', b.as.get('a'));
                    letters.put('k', width);
                    long worth = worth(law, letters);
                    int lost = (int) (worth < 0 ? 0 : worth > water[i] ? water[i] : worth);
                    lost -= lost * b.as.get('a') / 100;
                    water[i] -= lost;
                    gone += lost;
                }
                int jump = b.as.get('j');
                int all = Arrays.stream(water, b.from, b.to + 1).sum();
                if (all < b.as.get('e') * width && width > 2 * jump + 1) {
                    for (int n = 0; n < jump; n++) {
                        for (int c : new int[] {b.from + n, b.to - n}) {
                            downRound[c] += round[c];
                            downLong[c] += lengthy[c];
                            round[c] = 0;
                            lengthy[c] = 0;
                            water[c == b.from + n ? b.from + jump : b.to - jump] += water[c];
                            water[c] = 0;
                        }
                    }
                    b.from += jump;
                    b.to -= jump;
                    b.lets++;
                }
                int[] was = water.clone();
                int[] now = shape(all, b);
                System.arraycopy(now, b.from, water, b.from, b.to - b.from + 1);
                for (int i = b.from; i < b.to; i++) {
                    flow[i] = Arrays.stream(was, b.from, i + 1).sum() - Arrays.stream(water, b.from, i + 1).sum();
                    boolean right = b.to - i <= i - b.from && b.to - i - 1 <= i + 1 - b.from;
                    boolean left = i - b.from <= b.to - i && i + 1 - b.from <= b.to - i - 1;
                    speed += right && flow[i] > 0 ? flow[i] : 0;
                    speed += left && flow[i] < 0 ? -flow[i] : 0;
                }
                for (int i = b.from; i < b.to; i++) {
                    int one = flow[i] > 0 ? i : i + 1;
                    int two = flow[i] > 0 ? i + 1 : i;
                    if (was[one] == 0 || lengthy[one] > 0 && 10 * lengthy[one] >= round[one] + lengthy[one]) {
                        continue;
                    }
                    for (int[] sort : new int[][] {round, lengthy}) {
                        long going = (long) sort[one] * Math.abs(flow[i]) / was[one];
                        going = Math.min(going, sort[one]) * (100 - b.as.get('p')) / 100;
                        sort[one] -= (int) going;
                        sort[two] += (int) going;
                    }
                }
                if (b.as.get('m') >= 50) {
                    for (int i = b.from; i < b.to; i++) {
                        for (int[] sort : new int[][] {round, lengthy}) {
                            int more = Math.abs(sort[i] - sort[i + 1]) / 2;
                            int rich = sort[i] > sort[i + 1] ? i : i + 1;
                            sort[rich] -= more;
                            sort[rich == i ? i + 1 : i] += more;
                        }
                    }
                }
                for (int i = b.from; i <= b.to; i++) {
                    int draw = drawOf4();
                    if (draw == 1 && round[i] > 0 && i - 1 >= b.from) {
                        round[i]--;
                        round[i - 1]++;
                    }
                    if (draw == 2 && round[i] > 0 && i + 1 <= b.to) {
                        round[i]--;
                        round[i + 1]++;
                    }
                }
                for (int i = b.from; i <= b.to; i++) {
                    int bears = water[i] * b.as.get('c') / 10;
                    while (round[i] + lengthy[i] > bears) {
                        if (round[i] > 0) {
                            round[i]--;
                            downRound[i]++;
                        } else {
                            lengthy[i]--;
                            downLong[i]++;
                        }
                    }
                }
            }
            int all = 0;
            for (int i = 0; i < 24; i++) {
                int down = downRound[i] + downLong[i];
                lyingRound[i] += downRound[i];
                lyingLong[i] += downLong[i];
                if (down <= pace) {
                    rows[i] += down;
                } else {
                    heap[i] += down;
                }
                all += down;
            }
            came.add(all);
            blobs.removeIf(b -> Arrays.stream(water, b.from, b.to + 1).sum() == 0);
        }

        int about(int what) {
            int all = Arrays.stream(lie()).sum();
            switch (what) {
                case 0: {
                    int ends = 0;
                    for (int i = 0; i < 24; i++) {
                        ends += end[i] ? lie(i) : 0;
                    }
                    return all == 0 ? 0 : 100 * ends / all;
                }
                case 1: {
                    int n = 0;
                    for (int i = 0; i < 24; i++) {
                        n += lie(i) > lie(i - 1) && lie(i) > lie(i + 1) ? 1 : 0;
                    }
                    return n;
                }
                case 2: {
                    TreeSet<Integer> many = new TreeSet<>();
                    for (int i = 0; i < 24; i++) {
                        if (was[i]) {
                            many.add(lie(i));
                        }
                    }
                    return many.isEmpty() ? 0 : many.last() - many.first();
                }
                case 3: return all;
                case 4: return Arrays.stream(heap).sum();
                case 5: return came.size();
                case 6: return gone;
                case 7: return blobs.size();
                case 8: return Arrays.stream(round).sum() + Arrays.stream(lengthy).sum();
                default: return -1;
            }
        }

        boolean meets(String want) {
            Map<Character, Integer> letters = new HashMap<>();
            for (int i = 0; i < 6; i++) {
                letters.put("ervnht".charAt(i), about(i));
            }
            return holds(want, letters);
        }

        int off(int[] told) {
            int sum = 0;
            for (int i = 0; i < 24; i++) {
                sum += Math.abs(told[i] - lie(i));
            }
            return sum;
        }
    }

    // ---- the face ----

    int feed(int a, int b, int c, int d, int e) {
        String more = "";
        for (int v : new int[] {a, b, c, d, e}) {
            for (int n = 0; n < 4; n++) {
                char sign = (char) (v >> 24 - 8 * n & 255);
                more += sign == 0 ? "" : sign;
            }
        }
        if (tape.length() + more.length() > 160) {
            return -1;
        }
        tape += more;
        return tape.length();
    }

    boolean end(int n) {
        if (n < 0 || n > tape.length()) {
            return false;
        }
        tape = tape.substring(0, n);
        return true;
    }

    int fault(int sort) {
        if (sort < 0 || sort > 2) {
            return -2;
        }
        return sort == 2 ? dropFault(tape, new HashMap<>()) : formulaFault(tape, sort == 0);
    }

    int text(int sort) {
        if (fault(sort) != -1) {
            return -1;
        }
        int number;
        if (sort == 2) {
            if (drops.size() == 12) {
                return -1;
            }
            Map<Character, Integer> told = new HashMap<>();
            dropFault(tape, told);
            drops.add(told);
            weights.add(1);
            number = drops.size() - 1;
        } else {
            List<String> where = sort == 0 ? laws : wants;
            if (where.size() == 4) {
                return -1;
            }
            where.add(tape.replace(" ", ""));
            number = where.size() - 1;
        }
        tape = "";
        return number;
    }

    int drop(int drop, int what) {
        if (!isDrop(drop) || what < 0 || what > 11) {
            throw new NoSuchElementException();
        }
        return drops.get(drop).get(WHATS.charAt(what));
    }

    boolean pace(int v) {
        if (v < 0 || v > 99) {
            return false;
        }
        pace = v;
        return true;
    }

    boolean isLaw(int i) {
        return i >= 0 && i < laws.size();
    }

    boolean isWant(int i) {
        return i >= 0 && i < wants.size();
    }

    boolean isDrop(int i) {
        return i >= 0 && i < drops.size();
    }

    boolean isStain(int i) {
        return i >= 0 && i < stains.size();
    }

    static boolean isCell(int i) {
        return i >= 0 && i < 24;
    }

    boolean areDrops(int bits) {
        return bits >= 0 && bits < 1 << drops.size();
    }

    List<Integer> of(int bits) {
        List<Integer> list = new ArrayList<>();
        for (int d = 0; d < 12; d++) {
            if ((bits & 1 << d) != 0) {
                list.add(d);
            }
        }
        return list;
    }

    static Blob blob(Map<Character, Integer> as, int number, int from) {
        Blob b = new Blob();
        b.as = as;
        b.from = from;
        b.to = from + as.get('k') - 1;
        b.lowest = number;
        b.water = as.get('w');
        b.round = as.get('g');
        b.lengthy = as.get('l');
        return b;
    }

    /** The ground at a start, null when refused. */
    Ground begun(int law, int bits, long seed) {
        if (!isLaw(law) || bits == 0 || !areDrops(bits)) {
            return null;
        }
        int[] on = new int[24];
        List<Blob> put = new ArrayList<>();
        for (int d : of(bits)) {
            Blob b = blob(drops.get(d), d, drops.get(d).get('x'));
            for (int i = b.from; i <= b.to; i++) {
                if (++on[i] > 1) {
                    return null;
                }
            }
            put.add(b);
        }
        return Ground.started(laws.get(law), seed, put);
    }

    Ground alone(int law, Map<Character, Integer> as, long seed, int ticks) {
        Ground g = Ground.started(laws.get(law), seed, List.of(blob(as, 0, as.get('x'))));
        g.go(ticks, pace);
        return g;
    }

    int start(int law, int bits, long seed) {
        Ground g = begun(law, bits, seed);
        if (g == null) {
            return -1;
        }
        ground = g;
        return g.blobs.size();
    }

    int tick(int n) {
        return ground.law == null || n < 1 || n > 60 ? -1 : ground.go(n, pace);
    }

    int body(int i, int what) {
        if (i < 0 || i >= ground.blobs.size() || what < 0 || what > 3) {
            return -1;
        }
        Blob b = ground.blobs.get(i);
        return new int[] {b.from, b.to, Arrays.stream(ground.water, b.from, b.to + 1).sum(), b.lets}[what];
    }

    int water(int cell) {
        return isCell(cell) ? ground.water[cell] : -1;
    }

    int free(int cell, int sort) {
        return !isCell(cell) || sort < 0 || sort > 1 ? -1 : (sort == 0 ? ground.round : ground.lengthy)[cell];
    }

    int lies(int cell, int sort) {
        return !isCell(cell) || sort < 0 || sort > 1 ? -1 : (sort == 0 ? ground.lyingRound : ground.lyingLong)[cell];
    }

    int heap(int cell, int what) {
        return !isCell(cell) || what < 0 || what > 1 ? -1 : (what == 0 ? ground.rows : ground.heap)[cell];
    }

    int flow(int cell) {
        return isCell(cell) ? ground.flow[cell] : -100000;
    }

    int about(int what) {
        return ground.about(what);
    }

    int rush(int what) {
        int best = 0;
        for (int t = 1; t <= ground.came.size(); t++) {
            int than = best == 0 ? 0 : ground.came.get(best - 1);
            best = ground.came.get(t - 1) > than ? t : best;
        }
        return best == 0 || what < 0 || what > 1 ? -1 : what == 0 ? best : ground.came.get(best - 1);
    }

    int speed() {
        return ground.speed;
    }

    int met(int want) {
        return isWant(want) ? ground.meets(wants.get(want)) ? 1 : 0 : -1;
    }

    int tried(int law, int bits, long seed, int ticks, int what) {
        Ground g = begun(law, bits, seed);
        if (g == null || ticks < 1 || ticks > 60 || what < 0 || what > 32) {
            return -1;
        }
        g.go(ticks, pace);
        return what < 9 ? g.about(what) : g.lie(what - 9);
    }

    static boolean isTry(int letter) {
        return List.of(3, 4, 5, 6, 7, 9).contains(letter);
    }

    int least(int law, int drop, int letter, int want, long seed, int ticks) {
        if (!isLaw(law) || !isDrop(drop) || !isTry(letter) || !isWant(want) || ticks < 1 || ticks > 60) {
            return -1;
        }
        return least(law, new HashMap<>(drops.get(drop)), letter, want, seed, ticks);
    }

    int least(int law, Map<Character, Integer> as, int letter, int want, long seed, int ticks) {
        for (int v = 0; v <= 60; v++) {
            as.put(WHATS.charAt(letter), v);
            if (alone(law, as, seed, ticks).meets(wants.get(want))) {
                return v;
            }
        }
        return -1;
    }

    int stain() {
        if (stains.size() == 6) {
            return -1;
        }
        stains.add(new int[24]);
        return stains.size() - 1;
    }

    boolean grain(int stain, int cell, int v) {
        if (!isStain(stain) || !isCell(cell) || v < 0 || v > 9999) {
            return false;
        }
        stains.get(stain)[cell] = v;
        return true;
    }

    int print(int stain) {
        if (!isStain(stain)) {
            return -1;
        }
        stains.set(stain, ground.lie());
        return ground.about(3);
    }

    int read(int stain, int law, int bits, long seed, int ticks, int by) {
        if (!isStain(stain) || !isLaw(law) || !areDrops(bits) || ticks < 1 || ticks > 60 || by < 0 || by > 99) {
            return -1;
        }
        int found = 0;
        for (int d : of(bits)) {
            int[] left = alone(law, drops.get(d), seed, ticks).lie();
            boolean can = true;
            for (int i = 0; i < 24; i++) {
                can &= Math.abs(left[i] - stains.get(stain)[i]) <= by;
            }
            found += can ? 1 << d : 0;
        }
        return found;
    }

    boolean weigh(int drop, int weight) {
        if (!isDrop(drop) || weight < 1 || weight > 9) {
            return false;
        }
        weights.set(drop, weight);
        return true;
    }

    int odds(int stain, int law, int bits, long seed, int ticks, int by) {
        int found = read(stain, law, bits, seed, ticks, by);
        return found == -1 ? -1 : of(found).stream().mapToInt(weights::get).sum();
    }

    int parts(int one, int other, int drop, long seed, int ticks) {
        if (!isLaw(one) || !isLaw(other) || !isDrop(drop) || ticks < 1 || ticks > 60) {
            return -1;
        }
        int[] left = alone(one, drops.get(drop), seed, ticks).lie();
        return alone(other, drops.get(drop), seed, ticks).off(left);
    }

    int next(int one, int other, int bits, long seed, int ticks) {
        if (!areDrops(bits) || bits == 0) {
            return -1;
        }
        int best = -1;
        for (int d : of(bits)) {
            int apart = parts(one, other, d, seed, ticks);
            if (apart == -1) {
                return -1;
            }
            best = best == -1 || apart > parts(one, other, best, seed, ticks) ? d : best;
        }
        return best;
    }

    int printed(int law, int drop, int gap, long seed, int ticks, int what) {
        if (!isLaw(law) || !isDrop(drop) || gap < 0 || gap > 9 || ticks < 1 || ticks > 60 || what < 0 || what > 1) {
            return -1;
        }
        Map<Character, Integer> as = drops.get(drop);
        List<Blob> put = new ArrayList<>();
        while (put.size() * (as.get('k') + gap) + as.get('k') <= 24) {
            put.add(blob(as, put.size(), put.size() * (as.get('k') + gap)));
        }
        Ground g = Ground.started(laws.get(law), seed, put);
        g.go(ticks, pace);
        return what == 0 ? g.about(2) : put.size();
    }

    int dots(int law, int drop, long seed, int ticks) {
        int best = 0;
        for (int gap = 0; gap < 10; gap++) {
            int even = printed(law, drop, gap, seed, ticks, 0);
            if (even == -1) {
                return -1;
            }
            best = even < printed(law, drop, best, seed, ticks, 0) ? gap : best;
        }
        return best;
    }

    int came(int tick) {
        return tick < 1 || tick > Math.min(120, ground.came.size()) ? -1 : ground.came.get(tick - 1);
    }

    int middle(int what) {
        int all = ground.about(3);
        if (all == 0 || what < 0 || what > 1) {
            return -1;
        }
        int sum = 0;
        for (int i = 0; i < 24; i++) {
            sum += ground.lie(i) * i * 10;
        }
        int middle = sum / all;
        int spread = 0;
        for (int i = 0; i < 24; i++) {
            spread += ground.lie(i) * Math.abs(i - middle / 10);
        }
        return what == 0 ? middle : spread;
    }

    int dry(int law, int drop, long seed) {
        if (!isLaw(law) || !isDrop(drop)) {
            return -1;
        }
        Ground g = alone(law, drops.get(drop), seed, 200);
        return g.blobs.isEmpty() ? g.came.size() : -1;
    }

    int luck(int law, int drop, int want, long seed, int seeds, int ticks) {
        if (!isLaw(law) || !isDrop(drop) || !isWant(want) || seeds < 1 || seeds > 20 || ticks < 1 || ticks > 60) {
            return -1;
        }
        int n = 0;
        for (int s = 0; s < seeds; s++) {
            n += alone(law, drops.get(drop), seed + s, ticks).meets(wants.get(want)) ? 1 : 0;
        }
        return n;
    }

    int line(int law, int drop, int one, int other, int number, int want, long seed, int ticks) {
        if (!isLaw(law) || !isDrop(drop) || !isTry(one) || !isTry(other) || !isWant(want) || ticks < 1 || ticks > 60) {
            return -1;
        }
        if (one == other || number < -1 || number > 60) {
            return -1;
        }
        if (number >= 0) {
            Map<Character, Integer> as = new HashMap<>(drops.get(drop));
            as.put(WHATS.charAt(one), number);
            return least(law, as, other, want, seed, ticks);
        }
        int bits = 0;
        for (int n = 0; n <= 60; n += 10) {
            bits |= line(law, drop, one, other, n, want, seed, ticks) >= 0 ? 1 << n / 10 : 0;
        }
        return bits;
    }

    int alike(int law, int one, int other, long seed, int ticks) {
        if (!isLaw(law) || !isDrop(one) || !isDrop(other) || ticks < 1 || ticks > 60) {
            return -1;
        }
        Ground a = alone(law, drops.get(one), seed, ticks);
        Ground b = alone(law, drops.get(other), seed, ticks);
        int n = 0;
        for (int i = 0; i < Math.max(drops.get(one).get('k'), drops.get(other).get('k')); i++) {
            n += a.lie(drops.get(one).get('x') + i) == b.lie(drops.get(other).get('x') + i) ? 1 : 0;
        }
        return n;
    }

    int turned(int stain, int other) {
        if (!isStain(stain) || !isStain(other)) {
            return -1;
        }
        int n = 0;
        for (int i = 0; i < 24; i++) {
            n += stains.get(stain)[i] != stains.get(other)[23 - i] ? 1 : 0;
        }
        return n;
    }

    int join(int stain, int other) {
        if (!isStain(stain) || !isStain(other) || stain == other) {
            return -1;
        }
        for (int i = 0; i < 24; i++) {
            stains.get(stain)[i] = Math.min(9999, stains.get(stain)[i] + stains.get(other)[i]);
        }
        return Arrays.stream(stains.get(stain)).sum();
    }

    int blot(int stain, int what) {
        if (!isStain(stain) || what < 0 || what > 2) {
            return -1;
        }
        int many = 0;
        int longest = 0;
        int fullest = 0;
        for (int i = 0; i < 24; i++) {
            if (stains.get(stain)[i] == 0) {
                continue;
            }
            int from = i;
            int grains = 0;
            for (; i < 24 && stains.get(stain)[i] > 0; i++) {
                grains += stains.get(stain)[i];
            }
            many++;
            longest = Math.max(longest, i - from);
            fullest = Math.max(fullest, grains);
        }
        return new int[] {many, longest, fullest}[what];
    }

    int steps(int stain, int law, int drop, long seed, int what) {
        if (!isStain(stain) || !isLaw(law) || !isDrop(drop) || what < 0 || what > 1) {
            return -1;
        }
        int best = 1;
        for (int t = 1; t <= 60; t++) {
            if (alone(law, drops.get(drop), seed, t).off(stains.get(stain))
                < alone(law, drops.get(drop), seed, best).off(stains.get(stain))) {
                best = t;
            }
        }
        return what == 0 ? best : alone(law, drops.get(drop), seed, best).off(stains.get(stain));
    }

    int saved(int stain, int law, int bits, long seed) {
        if (!isStain(stain) || !isLaw(law) || !areDrops(bits) || bits == 0) {
            return -1;
        }
        int best = -1;
        for (int d : of(bits)) {
            best = best == -1 || steps(stain, law, d, seed, 1) < steps(stain, law, best, seed, 1) ? d : best;
        }
        return best;
    }

    int image() {
        image = ground.again();
        return image.came.size();
    }

    int back() {
        if (image == null) {
            return -1;
        }
        ground = image.again();
        return ground.came.size();
    }

    int count(int what) {
        return what < 0 || what > 5 ? -1
            : new int[] {laws.size(), wants.size(), drops.size(), stains.size(), tape.length(), pace}[what];
    }
}
