import java.util.Arrays;
import java.util.NoSuchElementException;
import java.util.Random;

/** Long runs of drawn calls, sound and wild ones, on the class and on the model. */
public final class ModelTest {
    private static final String[] LAWS = {"y:10", "y:w/8+1", "y:i=0?9;y:3", "y:g>2&!(t<5)?w/4;y:t<40?2;y:9", "y:k*2-i",
        "y: 5 + m/20 - a/30", "y:w-[w/3]*2;y:1", "y:[w*w*w]/[g-3]", "y:!i>1|(w<4&t>3)?w;y:i+1", "y:0", "y:1",
        "y:t=3?w;y:1-2", "y:9999*9999*9999/1000-990", "y:w>9?w/5+1;y:i<2?1"};
    private static final String[] WANTS = {"e>49", "r=2", "v<4&n>8", "!(h>0|t>30)", "n > 10", "h=n", "e+r*10-v>n/2",
        "t>10|e=0", "v<9999", "[n-h]*2>n&e>20"};

    private final Random random;
    private final RingDrop real = new RingDrop();
    private final Model model = new Model();
    /** What later calls of one object answer is free. */
    private static final int CALLS_MOST = 512;
    private static final int CALLS_OF_LOOK = 26 * 8;

    private String log = "";
    private int calls;

    private ModelTest(long seed) {
        random = new Random(seed);
    }

    private int below(int n) {
        return random.nextInt(n);
    }

    /** A number of which there are so many; at times one that is not there. */
    private int some(int many) {
        int way = below(40);
        return way == 0 ? many : way == 1 ? -1 : way == 2 ? random.nextInt() : many == 0 ? 0 : below(many);
    }

    private int bits() {
        int all = 1 << model.drops.size();
        if (below(3) == 0) {
            return 1 << Math.max(0, below(Math.max(1, model.drops.size())));
        }
        return below(30) == 0 ? all + below(9) : below(30) == 0 ? random.nextInt() : below(all);
    }

    private int ticks() {
        return below(25) == 0 ? new int[] {0, 61, -1, Integer.MIN_VALUE}[below(4)] : 1 + below(60);
    }

    private int letter() {
        return below(12) == 0 ? some(12) : new int[] {3, 4, 5, 6, 7, 9}[below(6)];
    }

    private long seed() {
        return below(3) == 0 ? random.nextLong() : below(2) == 0 ? below(9) : Long.MAX_VALUE - below(3);
    }

    private String drawnDrop() {
        StringBuilder s = new StringBuilder();
        int k = 2 + below(below(3) == 0 ? 23 : 7);
        int x = below(4) == 0 ? below(24) : below(25 - k) % 24;
        String[] items = {"x" + x, "k" + k, "w" + (1 + below(below(2) == 0 ? 999 : 99)), "g" + below(below(2) == 0 ? 60 : 999),
            "l" + below(below(3) == 0 ? 200 : 9), "m" + below(100), "a" + below(100), "p" + below(101), "c" + (1 + below(40)),
            "e" + below(60), "j" + (1 + below(3)), "s" + below(10)};
        boolean[] used = new boolean[12];
        int many = 1 + below(12);
        for (int n = 0; n < many; n++) {
            int i = n < 2 && below(4) > 0 ? n : below(12);
            if (!used[i] || below(60) == 0) {
                used[i] = true;
                s.append(s.length() == 0 ? "" : below(9) == 0 ? " , " : ",").append(items[i]);
            }
        }
        return s.toString();
    }

    private String garbled(String s) {
        String signs = "y:;?|&!()[]=<>+-*/0123456789iwgtmakervnhx, lpcejs\u0080\u00ff";
        StringBuilder b = new StringBuilder(s);
        for (int n = below(4); n > 0 && b.length() > 0; n--) {
            int at = below(b.length());
            int way = below(3);
            char sign = signs.charAt(below(signs.length()));
            if (way == 0) {
                b.setCharAt(at, sign);
            } else if (way == 1) {
                b.insert(at, sign);
            } else {
                b.deleteCharAt(at);
            }
        }
        return b.length() > 60 ? b.substring(0, 60) : b.toString();
    }

    private String sum(int deep) {
        StringBuilder s = new StringBuilder();
        for (int n = below(3); n >= 0; n--) {
            int way = below(deep > 0 ? 4 : 3);
            s.append(way == 0 ? "" + below(120) : way < 3 ? "" + "iwgtmak".charAt(below(7)) : "[" + sum(deep - 1) + "]");
            s.append(n == 0 ? "" : "" + "+-*/".charAt(below(4)));
        }
        return s.toString();
    }

    private String condition(int deep) {
        StringBuilder s = new StringBuilder();
        for (int n = below(3); n >= 0; n--) {
            int way = deep > 0 ? below(4) : 0;
            s.append(below(5) == 0 ? "!" : "");
            s.append(way < 3 ? sum(1) + "=<>".charAt(below(3)) + sum(1) : "(" + condition(deep - 1) + ")");
            s.append(n == 0 ? "" : "" + "|&".charAt(below(2)));
        }
        return s.toString();
    }

    private String drawnLaw() {
        StringBuilder s = new StringBuilder();
        for (int n = below(3); n >= 0; n--) {
            s.append("y:").append(below(3) > 0 ? condition(2) + "?" : "").append(sum(2)).append(n > 0 ? ";" : "");
        }
        return s.toString();
    }

    private void same(String call, long got, long due) {
        log += call + "\n";
        calls++;
        Check.same(call, got, due);
        if (got != due) {
            throw new IllegalStateException("after\n" + log);
        }
    }

    private void same(String call, boolean got, boolean due) {
        same(call, got ? 1 : 0, due ? 1 : 0);
    }

    private void feed(String text) {
        for (int from = 0; from < text.length(); from += 20) {
            int[] v = new int[5];
            for (int i = from; i < from + 20 && i < text.length(); i++) {
                v[(i - from) / 4] |= (text.charAt(i) & 255) << 24 - (i - from) % 4 * 8;
            }
            same("feed " + text, real.feed(v[0], v[1], v[2], v[3], v[4]), model.feed(v[0], v[1], v[2], v[3], v[4]));
        }
    }

    private void texts(int least) {
        for (int n = 0; n < least; n++) {
            text(below(3));
        }
    }

    private void text(int sort) {
        String text = sort == 2 ? drawnDrop()
            : sort == 1 ? WANTS[below(WANTS.length)] : below(2) == 0 ? drawnLaw() : LAWS[below(LAWS.length)];
        feed(below(5) == 0 ? garbled(text) : text);
        int asked = below(8) == 0 ? some(3) : sort;
        same("fault " + asked, real.fault(asked), model.fault(asked));
        same("text " + asked, real.text(asked), model.text(asked));
        if (model.tape.length() > 0 && below(5) > 0) {
            int n = below(6) == 0 ? below(model.tape.length() + 2) - 1 : 0;
            same("end " + n, real.end(n), model.end(n));
        }
    }

    private void run() {
        texts(12);
        // One way of calling makes eight calls at most.
        for (int n = 0; n < 240 && calls + 8 + CALLS_OF_LOOK <= CALLS_MOST; n++) {
            call(below(100));
        }
        look();
    }

    private void look() {
        for (int c = -1; c <= 24; c++) {
            same("water " + c, real.water(c), model.water(c));
            same("flow " + c, real.flow(c), model.flow(c));
            for (int s = 0; s < 2; s++) {
                same("free " + c + " " + s, real.free(c, s), model.free(c, s));
                same("lies " + c + " " + s, real.lies(c, s), model.lies(c, s));
                same("heap " + c + " " + s, real.heap(c, s), model.heap(c, s));
            }
        }
    }

    private void call(int way) {
        if (way < 12) {
            text(below(3));
        } else if (way < 24) {
            int law = some(model.laws.size());
            int bits = bits();
            long seed = seed();
            same("start " + law + " " + bits + " " + seed, real.start(law, bits, seed), model.start(law, bits, seed));
        } else if (way < 40) {
            int n = below(2) == 0 ? 1 + below(4) : ticks();
            same("tick " + n, real.tick(n), model.tick(n));
        } else if (way < 60) {
            small(below(14));
        } else if (way < 68) {
            stains(below(8));
        } else {
            tries(below(15));
        }
    }

    private void small(int way) {
        int i = some(3);
        int what = some(9);
        switch (way) {
            case 0 -> same("body " + i + " " + what, real.body(i, what % 5), model.body(i, what % 5));
            case 1 -> same("about " + what, real.about(what), model.about(what));
            case 2 -> same("rush " + i, real.rush(i), model.rush(i));
            case 3 -> same("speed", real.speed(), model.speed());
            case 4 -> {
                int want = some(model.wants.size());
                same("met " + want, real.met(want), model.met(want));
            }
            case 5 -> {
                int tick = below(3) == 0 ? below(130) : some(20);
                same("came " + tick, real.came(tick), model.came(tick));
            }
            case 6 -> same("middle " + i, real.middle(i), model.middle(i));
            case 7 -> same("image", real.image(), model.image());
            case 8 -> same("back", real.back(), model.back());
            case 9 -> same("count " + i, real.count(what), model.count(what));
            case 10 -> {
                int pace = below(4) == 0 ? some(100) : below(6);
                same("pace " + pace, real.pace(pace), model.pace(pace));
            }
            case 11 -> {
                int drop = some(model.drops.size());
                int of = some(12);
                same("drop " + drop + " " + of, realDrop(drop, of), modelDrop(drop, of));
            }
            case 12 -> {
                int drop = some(model.drops.size());
                int weight = below(11);
                same("weigh " + drop + " " + weight, real.weigh(drop, weight), model.weigh(drop, weight));
            }
            default -> {
                int cell = some(24);
                int s = some(2);
                same("free " + cell, real.free(cell, s), model.free(cell, s));
                same("lies " + cell, real.lies(cell, s), model.lies(cell, s));
                same("heap " + cell, real.heap(cell, s), model.heap(cell, s));
                same("water " + cell, real.water(cell), model.water(cell));
                same("flow " + cell, real.flow(cell), model.flow(cell));
            }
        }
    }

    private int realDrop(int drop, int what) {
        try {
            return real.drop(drop, what);
        } catch (NoSuchElementException e) {
            return -777;
        }
    }

    private int modelDrop(int drop, int what) {
        try {
            return model.drop(drop, what);
        } catch (NoSuchElementException e) {
            return -777;
        }
    }

    private void stains(int way) {
        int a = some(model.stains.size());
        int b = some(model.stains.size());
        int what = some(3);
        switch (way) {
            case 0 -> same("stain", real.stain(), model.stain());
            case 1, 2 -> {
                int cell = some(24);
                int v = below(3) == 0 ? below(10001) : below(9) == 0 ? random.nextInt() : below(9);
                same("grain " + a + " " + cell + " " + v, real.grain(a, cell, v), model.grain(a, cell, v));
            }
            case 3, 4 -> same("print " + a, real.print(a), model.print(a));
            case 5 -> same("turned " + a + " " + b, real.turned(a, b), model.turned(a, b));
            case 6 -> same("join " + a + " " + b, real.join(a, b), model.join(a, b));
            default -> same("blot " + a + " " + what, real.blot(a, what), model.blot(a, what));
        }
    }

    private void tries(int way) {
        int law = some(model.laws.size());
        int other = some(model.laws.size());
        int drop = some(model.drops.size());
        int drop2 = some(model.drops.size());
        int want = some(model.wants.size());
        int stain = some(model.stains.size());
        int bits = bits();
        long seed = seed();
        int n = ticks();
        int what = some(2);
        String told = " law " + law + " other " + other + " drop " + drop + " " + drop2 + " want " + want + " stain " + stain
            + " bits " + bits + " seed " + seed + " ticks " + n;
        switch (way) {
            case 0, 1 -> {
                int of = some(33);
                same("tried " + of + told, real.tried(law, bits, seed, n, of), model.tried(law, bits, seed, n, of));
            }
            case 2 -> {
                int letter = letter();
                same("least " + letter + told, real.least(law, drop, letter, want, seed, n),
                    model.least(law, drop, letter, want, seed, n));
            }
            case 3 -> {
                int by = below(9) == 0 ? some(100) : below(12);
                same("read " + by + told, real.read(stain, law, bits, seed, n, by), model.read(stain, law, bits, seed, n, by));
                same("odds " + by + told, real.odds(stain, law, bits, seed, n, by), model.odds(stain, law, bits, seed, n, by));
            }
            case 4 -> same("parts" + told, real.parts(law, other, drop, seed, n), model.parts(law, other, drop, seed, n));
            case 5 -> same("next" + told, real.next(law, other, bits, seed, n), model.next(law, other, bits, seed, n));
            case 6 -> {
                int gap = below(8) == 0 ? some(10) : below(10);
                same("printed " + gap + " " + what + told, real.printed(law, drop, gap, seed, n, what),
                    model.printed(law, drop, gap, seed, n, what));
            }
            case 7 -> same("dots" + told, real.dots(law, drop, seed, n), model.dots(law, drop, seed, n));
            case 8 -> same("dry" + told, real.dry(law, drop, seed), model.dry(law, drop, seed));
            case 9 -> {
                int seeds = below(9) == 0 ? some(21) : 1 + below(6);
                same("luck " + seeds + told, real.luck(law, drop, want, seed, seeds, n),
                    model.luck(law, drop, want, seed, seeds, n));
            }
            case 10 -> {
                int one = letter();
                int two = letter();
                int number = below(8) == 0 ? some(61) : below(61);
                same("line " + one + " " + two + " " + number + told, real.line(law, drop, one, two, number, want, seed, n),
                    model.line(law, drop, one, two, number, want, seed, n));
            }
            case 11 -> same("alike" + told, real.alike(law, drop, drop2, seed, n), model.alike(law, drop, drop2, seed, n));
            case 12 -> {
                if (below(4) == 0) {
                    same("steps " + what + told, real.steps(stain, law, drop, seed, what),
                        model.steps(stain, law, drop, seed, what));
                }
            }
            case 13 -> {
                if (below(4) == 0) {
                    same("saved" + told, real.saved(stain, law, bits & 19, seed), model.saved(stain, law, bits & 19, seed));
                }
            }
            default -> {
                if (below(12) == 0) {
                    int one = letter();
                    int two = letter();
                    same("edge " + one + " " + two + told, real.line(law, drop, one, two, -1, want, seed, 1 + n % 9),
                        model.line(law, drop, one, two, -1, want, seed, 1 + n % 9));
                }
            }
        }
    }

    public static void main(String[] args) {
        int runs = args.length > 0 ? Integer.parseInt(args[0]) : 30;
        long from = args.length > 1 ? Long.parseLong(args[1]) : 1;
        for (int n = 0; n < runs; n++) {
            ModelTest t = new ModelTest(from + n);
            try {
                t.run();
            } catch (IllegalStateException e) {
                System.out.println("run of seed " + (from + n) + ": " + e.getMessage());
            } catch (RuntimeException e) {
                e.printStackTrace();
                System.out.println("run of seed " + (from + n) + " threw after\n" + t.log);
                Check.same("run " + (from + n) + " throws " + Arrays.toString(e.getStackTrace()), 1, 0);
            }
        }
        Check.finish("ModelTest");
    }
}
