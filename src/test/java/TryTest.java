/** Promises 20, 21, 28 to 31 and 34 to 37: what is tried without touching the strip. */
public final class TryTest extends Check {
    private static final int BAD = Integer.MIN_VALUE;
    private static final int[] BAD_TICKS = {0, 61, -1, BAD, Integer.MAX_VALUE};
    private static final int[] BAD_NUMBERS = {-1, 9, 4096, BAD, Integer.MAX_VALUE};

    /** Dry in 5 ticks, 10 lie; dry in 1 tick, 4 lie; never dry by law 1; with round grains that wander. */
    private static RingDrop kit() {
        RingDrop r = new RingDrop();
        Check.law(r, "y:10");
        Check.law(r, "y:0");
        Check.law(r, "y:i=0?20;y:4");
        Check.want(r, "n>9");
        Check.want(r, "n>100");
        Check.want(r, "e>60");
        Check.want(r, "n>200");
        Check.drop(r, "k2,w100,l10");
        Check.drop(r, "x10,k2,w9,l4");
        Check.drop(r, "x4,k6,w400,g60,c3");
        Check.drop(r, "x1,k2,w9");
        return r;
    }

    private static void tried() {
        RingDrop r = kit();
        r.start(0, 2, 1);
        int[] due = {100, 0, 0, 10, 10, 5, 100, 0, 0};
        for (int what = 0; what < 9; what++) {
            Check.same("tried " + what, r.tried(0, 1, 3, 60, what), due[what]);
        }
        int[] early = {0, 0, 0, 0, 0, 4, 80, 1, 10};
        for (int what = 0; what < 9; what++) {
            Check.same("tried early " + what, r.tried(0, 1, 3, 4, what), early[what]);
        }
        Check.same("cell 0", r.tried(0, 1, 3, 60, 9), 5);
        Check.same("cell 2", r.tried(0, 1, 3, 60, 11), 0);
        Check.same("cell 11 of two drops", r.tried(0, 3, 3, 60, 20), 2);
        Check.same("cell 23", r.tried(0, 3, 3, 60, 32), 0);
        Check.same("n of two drops", r.tried(0, 3, 3, 60, 3), 14);
        Check.same("one what too many", r.tried(0, 3, 3, 60, 33), -1);
        Check.same("what -1", r.tried(0, 3, 3, 60, -1), -1);
        Check.same("two on one cell", r.tried(0, 9, 3, 60, 3), -1);
        Check.same("no drops", r.tried(0, 0, 3, 60, 3), -1);
        Check.same("no such drops", r.tried(0, 16, 3, 60, 3), -1);
        Check.same("no such drops", r.tried(0, -1, 3, 60, 3), -1);
        Check.same("no such law", r.tried(3, 1, 3, 60, 3), -1);
        Check.same("no such law", r.tried(-1, 1, 3, 60, 3), -1);
        for (int n : BAD_TICKS) {
            Check.same("ticks " + n, r.tried(0, 1, 3, n, 3), -1);
        }
        Check.same("the strip is as it was", r.about(5), 0);
        Check.same("the strip is as it was", r.water(10), 5);
        r.pace(99);
        Check.same("the pace of now", r.tried(0, 1, 3, 60, 4), 0);
    }

    private static void least() {
        RingDrop r = kit();
        r.start(0, 1, 9);
        r.tick(4);
        Check.same("l", r.least(0, 0, 4, 0, 9, 60), 10);
        Check.same("g, with ten long ones", r.least(0, 0, 3, 0, 9, 60), 0);
        Check.same("l, till the drop is dry", r.least(0, 0, 4, 0, 9, 4), 20);
        Check.same("none", r.least(0, 0, 4, 1, 9, 60), -1);
        Check.same("g of a drop without", r.least(0, 3, 3, 0, 9, 60), 10);
        Check.same("g in one tick", r.least(0, 3, 3, 0, 9, 1), 10);
        Check.same("e: lets go at 5 * 20 = 100 > 99", r.least(1, lettingGo(r), 9, 2, 9, 1), 20);
        for (int letter : new int[] {-1, 0, 1, 2, 8, 10, 11, 12, BAD}) {
            Check.same("letter " + letter, r.least(0, 0, letter, 0, 9, 60), -1);
        }
        for (int bad : BAD_NUMBERS) {
            Check.same("law " + bad, r.least(bad, 0, 4, 0, 9, 60), -1);
            Check.same("drop " + bad, r.least(0, bad, 4, 0, 9, 60), -1);
            Check.same("want " + bad, r.least(0, 0, 4, bad, 9, 60), -1);
        }
        for (int n : BAD_TICKS) {
            Check.same("ticks " + n, r.least(0, 0, 4, 0, 9, n), -1);
        }
        Check.same("the drop is as it was", r.drop(0, 4), 10);
        Check.same("the strip is as it was", r.about(5), 4);
        Check.same("the strip is as it was", r.about(8), 10);
    }

    /** A drop that lies in its end cells alone, if it lets go. */
    private static int lettingGo(RingDrop r) {
        return Check.drop(r, "k5,w99,l5,c99");
    }

    private static void leastOfTheRest() {
        RingDrop r = new RingDrop();
        Check.law(r, "y:w");
        Check.law(r, "y:m/3");
        Check.law(r, "y:i=0?10;y:0");
        Check.want(r, "n>9");
        Check.want(r, "n<1");
        Check.want(r, "n>15");
        Check.want(r, "n<78");
        Check.drop(r, "k2,w100,l10,m99,a90,p90,e90");
        Check.drop(r, "k2,w100,l24,c1,m9");
        Check.drop(r, "k3,w100,g300,c28,p9");
        // Half of the AIR is what stays of 50; it bears half of that, and 5 are in each cell.
        Check.same("a", r.least(0, 0, 6, 1, 5, 1), 20);
        Check.same("a by which all lie", r.least(0, 0, 6, 0, 5, 1), 0);
        // 12 in each cell; 49 of water and less bear 4, and 8 lie.
        Check.same("m", r.least(1, 1, 5, 2, 5, 1), 3);
        // 24 32 24 of water bear 67 89 67; from the middle one of 100 as few may go as bring it to 89 and no more.
        Check.same("p", r.least(2, 2, 7, 3, Check.seedFor(0, 0, 0), 1), 34);
        Check.same("m is as it was", r.drop(0, 5), 99);
        Check.same("a is as it was", r.drop(0, 6), 90);
        Check.same("p is as it was", r.drop(2, 7), 9);
    }

    private static void line() {
        RingDrop r = kit();
        r.start(0, 1, 9);
        Check.same("g 3, l", r.line(0, 0, 3, 4, 3, 0, 9, 60), 7);
        Check.same("g 10, l", r.line(0, 0, 3, 4, 10, 0, 9, 60), 0);
        Check.same("g 0, l", r.line(0, 0, 3, 4, 0, 0, 9, 60), 10);
        Check.same("l 60, g", r.line(0, 0, 4, 3, 60, 1, 9, 60), 41);
        Check.same("l 40, g", r.line(0, 0, 4, 3, 40, 1, 9, 60), -1);
        Check.same("l 41, g", r.line(0, 0, 4, 3, 41, 1, 9, 60), 60);
        Check.same("edge", r.line(0, 0, 3, 4, -1, 1, 9, 60), 96);
        Check.same("edge of all", r.line(0, 0, 3, 4, -1, 0, 9, 60), 127);
        Check.same("edge of none", r.line(0, 0, 3, 4, -1, 3, 9, 60), 0);
        Check.same("m, g with l as it is", r.line(0, 0, 5, 3, 7, 0, 9, 60), 0);
        Check.same("alike", r.line(0, 0, 3, 3, 3, 0, 9, 60), -1);
        Check.same("alike", r.line(0, 0, 3, 3, -1, 0, 9, 60), -1);
        Check.same("number 61", r.line(0, 0, 3, 4, 61, 0, 9, 60), -1);
        Check.same("number -2", r.line(0, 0, 3, 4, -2, 0, 9, 60), -1);
        for (int letter : new int[] {-1, 0, 1, 2, 8, 10, 11, 12, BAD}) {
            Check.same("one " + letter, r.line(0, 0, letter, 4, 3, 0, 9, 60), -1);
            Check.same("other " + letter, r.line(0, 0, 4, letter, 3, 0, 9, 60), -1);
            Check.same("edge of " + letter, r.line(0, 0, 4, letter, -1, 0, 9, 60), -1);
        }
        for (int bad : BAD_NUMBERS) {
            Check.same("law " + bad, r.line(bad, 0, 3, 4, 3, 0, 9, 60), -1);
            Check.same("drop " + bad, r.line(0, bad, 3, 4, 3, 0, 9, 60), -1);
            Check.same("want " + bad, r.line(0, 0, 3, 4, 3, bad, 9, 60), -1);
        }
        for (int n : BAD_TICKS) {
            Check.same("ticks " + n, r.line(0, 0, 3, 4, 3, 0, 9, n), -1);
        }
        Check.same("the drop is as it was", r.drop(0, 3), 0);
        Check.same("the drop is as it was", r.drop(0, 4), 10);
        Check.same("the strip is as it was", r.about(8), 10);
    }

    private static void luck() {
        RingDrop r = kit();
        Check.same("always", r.luck(0, 0, 0, 5, 20, 60), 20);
        Check.same("never", r.luck(0, 0, 1, 5, 20, 60), 0);
        Check.same("one seed", r.luck(0, 0, 0, 5, 1, 60), 1);
        for (long first : new long[] {0, 77, Long.MAX_VALUE - 4}) {
            int due = 0;
            int want = 2;
            for (int n = 0; n < 12; n++) {
                r.start(2, 4, first + n);
                r.tick(9);
                due += r.met(want);
            }
            r.start(2, 4, 0);
            Check.same("luck from " + first, r.luck(2, 2, want, first, 12, 9), due);
            Check.same("the strip is as it was", r.about(5), 0);
        }
        for (int seeds : new int[] {0, 21, -1, BAD}) {
            Check.same("seeds " + seeds, r.luck(0, 0, 0, 5, seeds, 60), -1);
        }
        for (int bad : BAD_NUMBERS) {
            Check.same("law " + bad, r.luck(bad, 0, 0, 5, 2, 60), -1);
            Check.same("drop " + bad, r.luck(0, bad, 0, 5, 2, 60), -1);
            Check.same("want " + bad, r.luck(0, 0, bad, 5, 2, 60), -1);
        }
        for (int n : BAD_TICKS) {
            Check.same("ticks " + n, r.luck(0, 0, 0, 5, 2, n), -1);
        }
    }

    private static void luckBySeed() {
        RingDrop r = new RingDrop();
        Check.law(r, "y:w");
        Check.want(r, "v=2");
        Check.drop(r, "k2,w9,g2");
        for (int first = 40; first < 49; first++) {
            int due = 0;
            for (int n = 0; n < 20; n++) {
                // One grain in each cell: the first draw moves its one to the right, the second then one to the left.
                long x = (first + (long) n) * 6364136223846793005L + 1442695040888963407L;
                long one = x >>> 33 & 3;
                long two = x * 6364136223846793005L + 1442695040888963407L >>> 33 & 3;
                due += (one == 2) != (two == 1) ? 1 : 0;
            }
            Check.yes("a mixed lot", due > 0 && due < 20);
            Check.same("luck of twenty from " + first, r.luck(0, 0, 0, first, 20, 1), due);
        }
    }

    private static void dry() {
        RingDrop r = kit();
        r.start(0, 2, 1);
        Check.same("dry", r.dry(0, 0, 3), 5);
        Check.same("dry", r.dry(0, 1, 3), 1);
        Check.same("never", r.dry(1, 0, 3), -1);
        int slow = Check.drop(r, "k2,w400");
        int slower = Check.drop(r, "k2,w402");
        int one = Check.law(r, "y:1");
        Check.same("in 200", r.dry(one, slow, 3), 200);
        Check.same("not by then", r.dry(one, slower, 3), -1);
        for (int bad : BAD_NUMBERS) {
            Check.same("law " + bad, r.dry(bad, 0, 3), -1);
            Check.same("drop " + bad, r.dry(0, bad, 3), -1);
        }
        Check.same("the strip is as it was", r.about(5), 0);
        Check.same("the strip is as it was", r.about(7), 1);
    }

    private static void parts() {
        RingDrop r = kit();
        Check.same("till one is dry", r.parts(0, 1, 0, 9, 60), 10);
        Check.same("ahead of that", r.parts(0, 1, 0, 9, 4), 0);
        Check.same("of one law", r.parts(0, 0, 0, 9, 60), 0);
        Check.same("another drop", r.parts(0, 1, 1, 9, 60), 4);
        Check.same("next", r.next(0, 1, 15, 9, 60), 2);
        Check.same("next of two", r.next(0, 1, 3, 9, 60), 0);
        Check.same("next of two", r.next(0, 1, 2 | 8, 9, 60), 1);
        Check.same("several: the lowest", r.next(0, 1, 11, 9, 1), 1);
        Check.same("several: the lowest", r.next(0, 0, 14, 9, 60), 1);
        Check.same("one", r.next(0, 1, 8, 9, 60), 3);
        int twin = Check.drop(r, "x14,k2,w9,l4");
        Check.same("twins: the lowest", r.next(0, 1, 2 | 1 << twin, 9, 60), 1);
        Check.same("no drops", r.next(0, 1, 0, 9, 60), -1);
        Check.same("no such drops", r.next(0, 1, 32, 9, 60), -1);
        Check.same("no such drops", r.next(0, 1, -1, 9, 60), -1);
        for (int bad : BAD_NUMBERS) {
            Check.same("one " + bad, r.parts(bad, 1, 0, 9, 60), -1);
            Check.same("other " + bad, r.parts(0, bad, 0, 9, 60), -1);
            Check.same("drop " + bad, r.parts(0, 1, bad, 9, 60), -1);
            Check.same("one " + bad, r.next(bad, 1, 1, 9, 60), -1);
            Check.same("other " + bad, r.next(0, bad, 1, 9, 60), -1);
        }
        for (int n : BAD_TICKS) {
            Check.same("ticks " + n, r.parts(0, 1, 0, 9, n), -1);
            Check.same("ticks " + n, r.next(0, 1, 1, 9, n), -1);
        }
    }

    private static void partsCellByCell() {
        RingDrop r = new RingDrop();
        Check.law(r, "y:w");
        Check.law(r, "y:i=0?w");
        Check.drop(r, "k3,w100,l6,c1");
        // 2 2 2 lie; by the other law 40 stay, 12 16 12 of water bear 1 each, and 1 1 1 lie.
        Check.same("cell by cell", r.parts(0, 1, 0, 9, 1), 3);
        Check.same("turned about", r.parts(1, 0, 0, 9, 1), 3);
    }

    private static void prints() {
        RingDrop r = new RingDrop();
        Check.law(r, "y:w");
        Check.law(r, "y:0");
        Check.drop(r, "x3,k5,w9,l7");
        Check.drop(r, "k24,w9,l7");
        Check.drop(r, "k7,w100,l7");
        r.start(0, 1, 1);
        int[] many = {4, 4, 3, 3, 3, 2, 2, 2, 2, 2};
        for (int gap = 0; gap < 10; gap++) {
            Check.same("how many with gap " + gap, r.printed(0, 0, gap, 9, 60, 1), many[gap]);
        }
        // 28 on 20 cells that are one drop; apart 2 2 1 1 1 in each.
        Check.same("even with gap 0", r.printed(0, 0, 0, 9, 60, 0), 1);
        Check.same("even with gap 1", r.printed(0, 0, 1, 9, 60, 0), 1);
        Check.same("one over all", r.printed(0, 1, 9, 9, 60, 1), 1);
        Check.same("its even", r.printed(0, 1, 9, 9, 60, 0), 1);
        Check.same("a seven each", r.printed(0, 2, 0, 9, 60, 0), 0);
        for (int bad : new int[] {-1, 10, BAD}) {
            Check.same("gap " + bad, r.printed(0, 0, bad, 9, 60, 1), -1);
        }
        for (int bad : new int[] {-1, 2, BAD}) {
            Check.same("what " + bad, r.printed(0, 0, 0, 9, 60, bad), -1);
        }
        for (int bad : BAD_NUMBERS) {
            Check.same("law " + bad, r.printed(bad, 0, 0, 9, 60, 1), -1);
            Check.same("drop " + bad, r.printed(0, bad, 0, 9, 60, 1), -1);
            Check.same("law " + bad, r.dots(bad, 0, 9, 60), -1);
            Check.same("drop " + bad, r.dots(0, bad, 9, 60), -1);
        }
        for (int n : BAD_TICKS) {
            Check.same("ticks " + n, r.printed(0, 0, 0, 9, n, 1), -1);
            Check.same("ticks " + n, r.dots(0, 0, 9, n), -1);
        }
        Check.same("the strip is as it was", r.body(0, 0), 3);
    }

    private static void dots() {
        RingDrop r = new RingDrop();
        Check.law(r, "y:w");
        Check.drop(r, "k5,w9,l6");
        Check.drop(r, "k2,w9,l1");
        Check.drop(r, "k4,w9,l4");
        Check.drop(r, "k9,w9,l10");
        // Six on five cells: 2 1 1 1 1; 24 on 20 as one: 2 2 2 2 1 ..: even 1 by every gap.
        Check.same("several: the lowest", r.dots(0, 0, 9, 60), 0);
        Check.same("none at all", r.dots(0, 2, 9, 60), 0);
        Check.same("one grain of two cells", r.printed(0, 1, 3, 9, 60, 0), 1);
    }

    private static void dotsOfManySeeds() {
        boolean[] found = new boolean[10];
        for (String drop : new String[] {"k4,w90,g37", "k8,w90,g80"}) {
            for (long seed = 0; seed < 60; seed++) {
                RingDrop r = with("y:w", drop);
                int due = 0;
                int fewest = r.printed(0, 0, 0, seed, 60, 0);
                for (int gap = 1; gap < 10; gap++) {
                    int even = r.printed(0, 0, gap, seed, 60, 0);
                    if (even < fewest) {
                        fewest = even;
                        due = gap;
                    }
                }
                Check.same("dots of seed " + seed, r.dots(0, 0, seed, 60), due);
                found[due] = true;
            }
        }
        Check.yes("the widest gap at times", found[9]);
    }

    private static void alike() {
        RingDrop r = new RingDrop();
        Check.law(r, "y:w");
        Check.drop(r, "k2,w10,l4");
        Check.drop(r, "x10,k4,w10,l8");
        Check.drop(r, "x22,k2,w10,l4");
        Check.drop(r, "x3,k4,w10,l2");
        Check.drop(r, "x17,k7,w20,l4");
        Check.same("itself", r.alike(0, 1, 1, 9, 60), 4);
        Check.same("elsewhere", r.alike(0, 0, 2, 9, 60), 2);
        Check.same("the greater width", r.alike(0, 0, 1, 9, 60), 2);
        Check.same("the greater width", r.alike(0, 1, 0, 9, 60), 2);
        Check.same("beyond the strip none", r.alike(0, 2, 3, 9, 60), 2);
        Check.same("beyond the strip none", r.alike(0, 4, 2, 9, 60), 3);
        Check.same("beyond the strip none", r.alike(0, 2, 4, 9, 60), 3);
        Check.same("1 1 1 1 0 0 0", r.alike(0, 4, 3, 9, 60), 5);
        for (int bad : BAD_NUMBERS) {
            Check.same("law " + bad, r.alike(bad, 0, 1, 9, 60), -1);
            Check.same("one " + bad, r.alike(0, bad, 1, 9, 60), -1);
            Check.same("other " + bad, r.alike(0, 0, bad, 9, 60), -1);
        }
        for (int n : BAD_TICKS) {
            Check.same("ticks " + n, r.alike(0, 0, 1, 9, n), -1);
        }
    }

    public static void main(String[] args) {
        tried();
        least();
        leastOfTheRest();
        line();
        luck();
        luckBySeed();
        dry();
        parts();
        partsCellByCell();
        prints();
        dots();
        dotsOfManySeeds();
        alike();
        Check.finish("TryTest");
    }
}
