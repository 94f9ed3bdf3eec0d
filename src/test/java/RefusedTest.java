import java.util.ArrayList;
import java.util.List;
import java.util.function.ToIntFunction;

/** "What is refused answers as told and changes nothing": each refused call, and all that can be asked behind it. */
public final class RefusedTest extends Check {
    private static final int MIN = Integer.MIN_VALUE;
    private static final int MAX = Integer.MAX_VALUE;

    private final String name;
    private final int due;
    private final ToIntFunction<RingDrop> call;

    private RefusedTest(String name, int due, ToIntFunction<RingDrop> call) {
        this.name = name;
        this.due = due;
        this.call = call;
    }

    private static final List<RefusedTest> ALL = new ArrayList<>();

    private static void none(String name, ToIntFunction<RingDrop> call) {
        ALL.add(new RefusedTest(name, -1, call));
    }

    private static void no(String name, java.util.function.Predicate<RingDrop> call) {
        ALL.add(new RefusedTest(name, 0, r -> call.test(r) ? 1 : 0));
    }

    /** An object with two laws, a want, four drops (two of them on one cell), two stains, an image, a strip, a text on the tape. */
    private static RingDrop kit() {
        RingDrop r = with("y:4;y:9", "x3,k5,w90,g9,l9,e9,m50", "x12,k3,w60,g7,c9", "x4,k2,w9,l3", "x16,k4,w99,l20,p9");
        law(r, "y:i=0?9;y:t");
        want(r, "n>9");
        r.weigh(1, 4);
        r.stain();
        r.stain();
        r.grain(0, 3, 5);
        r.grain(0, 12, 2);
        r.grain(1, 23, 9);
        r.start(0, 8, 5);
        r.tick(3);
        r.image();
        r.start(1, 3, 11);
        r.tick(4);
        r.pace(7);
        feed(r, "x3,k9");
        return r;
    }

    private static void texts() {
        none("feed of too many", r -> {
            int last = 0;
            for (int n = 0; n < 7; n++) {
                last = r.feed(-1, -1, -1, -1, -1);
            }
            int answer = r.feed(-1, -1, -1, -1, -1);
            r.end(5);
            return last == 145 ? answer : -99;
        });
        for (int n : new int[] {6, -1, MIN, MAX}) {
            no("end " + n, r -> r.end(n));
        }
        for (int sort : new int[] {3, -1, MIN, MAX}) {
            ALL.add(new RefusedTest("fault " + sort, -2, r -> r.fault(sort)));
        }
        for (int sort : new int[] {0, 1, 3, -1, MIN, MAX}) {
            none("text " + sort, r -> r.text(sort));
        }
        for (int bad : new int[] {4, -1, MIN, MAX}) {
            ALL.add(new RefusedTest("drop " + bad, 1, r -> throwsNoSuch(r, bad, 0) ? 1 : 0));
        }
        for (int bad : new int[] {12, -1, MIN, MAX}) {
            ALL.add(new RefusedTest("drop 0, " + bad, 1, r -> throwsNoSuch(r, 0, bad) ? 1 : 0));
        }
        for (int v : new int[] {100, -1, MIN, MAX}) {
            no("pace " + v, r -> r.pace(v));
        }
        for (int what : new int[] {6, -1, MIN, MAX}) {
            none("count " + what, r -> r.count(what));
        }
        for (int weight : new int[] {0, 10, -1, MIN, MAX}) {
            no("weigh 0, " + weight, r -> r.weigh(0, weight));
        }
        for (int bad : new int[] {4, -1, MIN, MAX}) {
            no("weigh " + bad, r -> r.weigh(bad, 2));
        }
    }

    private static void strip() {
        for (int law : new int[] {2, -1, MIN, MAX}) {
            none("start by law " + law, r -> r.start(law, 1, 3));
        }
        for (int bits : new int[] {0, 16, 17, 5, 7, -1, MIN, MAX}) {
            none("start of " + bits, r -> r.start(0, bits, 3));
        }
        for (int n : new int[] {0, 61, -1, MIN, MAX}) {
            none("tick " + n, r -> r.tick(n));
            none("came " + n, r -> r.came(n));
        }
        for (int bad : new int[] {2, -1, MIN, MAX}) {
            none("body " + bad, r -> r.body(bad, 0));
            none("free 0, " + bad, r -> r.free(0, bad));
            none("lies 0, " + bad, r -> r.lies(0, bad));
            none("heap 0, " + bad, r -> r.heap(0, bad));
            none("rush " + bad, r -> r.rush(bad));
            none("middle " + bad, r -> r.middle(bad));
        }
        for (int bad : new int[] {24, -1, MIN, MAX}) {
            none("water " + bad, r -> r.water(bad));
            none("free " + bad, r -> r.free(bad, 0));
            none("lies " + bad, r -> r.lies(bad, 0));
            none("heap " + bad, r -> r.heap(bad, 0));
            ALL.add(new RefusedTest("flow " + bad, -100000, r -> r.flow(bad)));
        }
        for (int bad : new int[] {9, -1, MIN, MAX}) {
            none("about " + bad, r -> r.about(bad));
        }
        for (int bad : new int[] {4, -1, MIN, MAX}) {
            none("body 0, " + bad, r -> r.body(0, bad));
            none("met " + bad, r -> r.met(bad));
        }
    }

    private static void stains() {
        none("a seventh stain", r -> {
            RingDrop full = new RingDrop();
            for (int n = 0; n < 6; n++) {
                full.stain();
            }
            int answer = full.stain();
            return full.count(3) == 6 ? answer : -99;
        });
        for (int bad : new int[] {2, 6, -1, MIN, MAX}) {
            no("grain " + bad, r -> r.grain(bad, 0, 1));
            none("print " + bad, r -> r.print(bad));
            none("turned " + bad, r -> r.turned(bad, 0) == -1 ? r.turned(0, bad) : -99);
            none("join " + bad, r -> r.join(bad, 0) == -1 ? r.join(0, bad) : -99);
            none("blot " + bad, r -> r.blot(bad, 0));
            none("read " + bad, r -> r.read(bad, 0, 1, 3, 9, 9));
            none("odds " + bad, r -> r.odds(bad, 0, 1, 3, 9, 9));
            none("steps " + bad, r -> r.steps(bad, 0, 0, 3, 0));
            none("saved " + bad, r -> r.saved(bad, 0, 1, 3));
        }
        none("join of one", r -> r.join(1, 1));
        for (int bad : new int[] {24, -1, MIN, MAX}) {
            no("grain 0, " + bad, r -> r.grain(0, bad, 1));
        }
        for (int bad : new int[] {10000, -1, MIN, MAX}) {
            no("grain 0, 3, " + bad, r -> r.grain(0, 3, bad));
        }
        for (int bad : new int[] {3, -1, MIN, MAX}) {
            none("blot 0, " + bad, r -> r.blot(0, bad));
        }
        for (int bad : new int[] {100, -1, MIN, MAX}) {
            none("read by " + bad, r -> r.read(0, 0, 1, 3, 9, bad));
            none("odds by " + bad, r -> r.odds(0, 0, 1, 3, 9, bad));
        }
    }

    private static void tries() {
        for (int bad : new int[] {2, 4, -1, MIN, MAX}) {
            none("tried by law " + bad, r -> r.tried(bad, 1, 3, 9, 3));
            none("least by law " + bad, r -> r.least(bad, 0, 4, 0, 3, 9));
            none("read by law " + bad, r -> r.read(0, bad, 1, 3, 9, 9));
            none("odds by law " + bad, r -> r.odds(0, bad, 1, 3, 9, 9));
            none("parts of law " + bad, r -> r.parts(bad, 0, 0, 3, 9) == -1 ? r.parts(0, bad, 0, 3, 9) : -99);
            none("next of law " + bad, r -> r.next(bad, 0, 1, 3, 9) == -1 ? r.next(0, bad, 1, 3, 9) : -99);
            none("printed by law " + bad, r -> r.printed(bad, 0, 0, 3, 9, 0));
            none("dots by law " + bad, r -> r.dots(bad, 0, 3, 9));
            none("dry by law " + bad, r -> r.dry(bad, 0, 3));
            none("luck by law " + bad, r -> r.luck(bad, 0, 0, 3, 2, 9));
            none("line by law " + bad, r -> r.line(bad, 0, 3, 4, 5, 0, 3, 9));
            none("alike by law " + bad, r -> r.alike(bad, 0, 1, 3, 9));
            none("steps by law " + bad, r -> r.steps(0, bad, 0, 3, 0));
            none("saved by law " + bad, r -> r.saved(0, bad, 1, 3));
        }
        for (int bad : new int[] {4, 12, -1, MIN, MAX}) {
            none("least of drop " + bad, r -> r.least(0, bad, 4, 0, 3, 9));
            none("parts by drop " + bad, r -> r.parts(0, 1, bad, 3, 9));
            none("printed of drop " + bad, r -> r.printed(0, bad, 0, 3, 9, 0));
            none("dots of drop " + bad, r -> r.dots(0, bad, 3, 9));
            none("dry of drop " + bad, r -> r.dry(0, bad, 3));
            none("luck of drop " + bad, r -> r.luck(0, bad, 0, 3, 2, 9));
            none("line of drop " + bad, r -> r.line(0, bad, 3, 4, 5, 0, 3, 9));
            none("alike of drop " + bad, r -> r.alike(0, bad, 1, 3, 9) == -1 ? r.alike(0, 1, bad, 3, 9) : -99);
            none("steps from drop " + bad, r -> r.steps(0, 0, bad, 3, 0));
        }
        for (int bad : new int[] {1, 4, -1, MIN, MAX}) {
            none("least by want " + bad, r -> r.least(0, 0, 4, bad, 3, 9));
            none("luck by want " + bad, r -> r.luck(0, 0, bad, 3, 2, 9));
            none("line by want " + bad, r -> r.line(0, 0, 3, 4, 5, bad, 3, 9));
            none("edge by want " + bad, r -> r.line(0, 0, 3, 4, -1, bad, 3, 9));
        }
    }

    private static void triesOutOfBounds() {
        for (int n : new int[] {0, 61, -1, MIN, MAX}) {
            none("tried of ticks " + n, r -> r.tried(0, 1, 3, n, 3));
            none("least of ticks " + n, r -> r.least(0, 0, 4, 0, 3, n));
            none("read of ticks " + n, r -> r.read(0, 0, 1, 3, n, 9));
            none("odds of ticks " + n, r -> r.odds(0, 0, 1, 3, n, 9));
            none("parts of ticks " + n, r -> r.parts(0, 1, 0, 3, n));
            none("next of ticks " + n, r -> r.next(0, 1, 1, 3, n));
            none("printed of ticks " + n, r -> r.printed(0, 0, 0, 3, n, 0));
            none("dots of ticks " + n, r -> r.dots(0, 0, 3, n));
            none("luck of ticks " + n, r -> r.luck(0, 0, 0, 3, 2, n));
            none("line of ticks " + n, r -> r.line(0, 0, 3, 4, 5, 0, 3, n));
            none("edge of ticks " + n, r -> r.line(0, 0, 3, 4, -1, 0, 3, n));
            none("alike of ticks " + n, r -> r.alike(0, 0, 1, 3, n));
        }
        for (int bits : new int[] {0, 16, 31, -1, MIN, MAX}) {
            none("tried of " + bits, r -> r.tried(0, bits, 3, 9, 3));
            none("next of " + bits, r -> r.next(0, 1, bits, 3, 9));
            none("saved of " + bits, r -> r.saved(0, 0, bits, 3));
        }
        none("tried of two on one cell", r -> r.tried(0, 5, 3, 9, 3));
        for (int bits : new int[] {16, 31, -1, MIN, MAX}) {
            none("read of " + bits, r -> r.read(0, 0, bits, 3, 9, 9));
            none("odds of " + bits, r -> r.odds(0, 0, bits, 3, 9, 9));
        }
        for (int letter : new int[] {0, 1, 2, 8, 10, 11, 12, -1, MIN, MAX}) {
            none("least of letter " + letter, r -> r.least(0, 0, letter, 0, 3, 9));
            none("line of letter " + letter, r -> r.line(0, 0, letter, 4, 5, 0, 3, 9));
            none("line to letter " + letter, r -> r.line(0, 0, 4, letter, 5, 0, 3, 9));
            none("edge of letter " + letter, r -> r.line(0, 0, letter, 4, -1, 0, 3, 9));
        }
        none("line of letters that are alike", r -> r.line(0, 0, 4, 4, 5, 0, 3, 9));
        none("edge of letters that are alike", r -> r.line(0, 0, 4, 4, -1, 0, 3, 9));
        for (int number : new int[] {61, -2, MIN, MAX}) {
            none("line of number " + number, r -> r.line(0, 0, 3, 4, number, 0, 3, 9));
        }
        for (int gap : new int[] {10, -1, MIN, MAX}) {
            none("printed with gap " + gap, r -> r.printed(0, 0, gap, 3, 9, 0));
        }
        for (int seeds : new int[] {0, 21, -1, MIN, MAX}) {
            none("luck of seeds " + seeds, r -> r.luck(0, 0, 0, 3, seeds, 9));
        }
        for (int what : new int[] {33, -1, MIN, MAX}) {
            none("tried what " + what, r -> r.tried(0, 1, 3, 9, what));
        }
        for (int what : new int[] {2, -1, MIN, MAX}) {
            none("printed what " + what, r -> r.printed(0, 0, 0, 3, 9, what));
            none("steps what " + what, r -> r.steps(0, 0, 0, 3, what));
        }
    }

    /** What an object without a start, an image, a law, a want, a drop, a stain refuses. */
    private static void onANewObject() {
        RingDrop r = new RingDrop();
        same("tick", r.tick(1), -1);
        same("back", r.back(), -1);
        same("start", r.start(0, 1, 0), -1);
        same("met", r.met(0), -1);
        same("tried", r.tried(0, 1, 0, 1, 0), -1);
        same("least", r.least(0, 0, 4, 0, 0, 1), -1);
        same("print", r.print(0), -1);
        same("read", r.read(0, 0, 0, 0, 1, 0), -1);
        same("odds", r.odds(0, 0, 0, 0, 1, 0), -1);
        same("parts", r.parts(0, 0, 0, 0, 1), -1);
        same("next", r.next(0, 0, 1, 0, 1), -1);
        same("printed", r.printed(0, 0, 0, 0, 1, 1), -1);
        same("dots", r.dots(0, 0, 0, 1), -1);
        same("came", r.came(1), -1);
        same("middle", r.middle(0), -1);
        same("dry", r.dry(0, 0, 0), -1);
        same("luck", r.luck(0, 0, 0, 0, 1, 1), -1);
        same("line", r.line(0, 0, 3, 4, 0, 0, 0, 1), -1);
        same("alike", r.alike(0, 0, 0, 0, 1), -1);
        same("turned", r.turned(0, 0), -1);
        same("join", r.join(0, 1), -1);
        same("blot", r.blot(0, 0), -1);
        same("steps", r.steps(0, 0, 0, 0, 0), -1);
        same("saved", r.saved(0, 0, 1, 0), -1);
        same("body", r.body(0, 0), -1);
        same("rush", r.rush(0), -1);
        for (int what = 0; what < 6; what++) {
            same("count " + what, r.count(what), what == 5 ? 3 : 0);
        }
    }

    /** All that can be asked without changing anything, and behind it what a tick and the image answer. */
    private static String all(RingDrop r) {
        StringBuilder s = new StringBuilder();
        for (int c = 0; c < 24; c++) {
            s.append(r.water(c)).append(' ').append(r.flow(c)).append(' ');
            for (int sort = 0; sort < 2; sort++) {
                s.append(r.free(c, sort)).append(' ').append(r.lies(c, sort)).append(' ');
            }
            s.append(r.heap(c, 1)).append(' ');
        }
        strip(r, s);
        for (int what = 0; what < 6; what++) {
            s.append(r.count(what)).append(' ');
        }
        for (int d = 0; d < 4; d++) {
            for (int what = 0; what < 12; what++) {
                s.append(r.drop(d, what)).append(' ');
            }
            s.append(r.odds(0, 0, 1 << d, 1, 1, 99)).append(' ');
        }
        for (int sort = 0; sort < 3; sort++) {
            s.append(r.fault(sort)).append(' ').append(r.blot(0, sort)).append(' ').append(r.blot(1, sort)).append(' ');
        }
        s.append(r.turned(0, 0)).append(' ').append(r.turned(0, 1)).append(' ').append(r.steps(0, 0, 1, 3, 1)).append(' ');
        s.append(r.met(0)).append(' ').append(r.tick(1)).append(' ');
        strip(r, s);
        s.append(r.back()).append(' ');
        strip(r, s);
        s.append(r.tick(2)).append(' ');
        strip(r, s);
        return s.append(r.text(2)).toString();
    }

    private static void strip(RingDrop r, StringBuilder s) {
        for (int what = 0; what < 9; what++) {
            s.append(r.about(what)).append(' ');
        }
        for (int n = 0; n < 8; n++) {
            s.append(r.came(n)).append(' ').append(r.body(n / 4, n % 4)).append(' ');
        }
        s.append(r.rush(0)).append(' ').append(r.rush(1)).append(' ').append(r.speed()).append(' ');
        s.append(r.middle(0)).append(' ').append(r.middle(1)).append(' ');
    }

    public static void main(String[] args) {
        texts();
        strip();
        stains();
        tries();
        triesOutOfBounds();
        String due = all(kit());
        for (RefusedTest t : ALL) {
            RingDrop r = kit();
            same(t.name, t.call.applyAsInt(r), t.due);
            yes("nothing is changed by " + t.name, all(r).equals(due));
        }
        onANewObject();
        finish("RefusedTest");
    }
}
