/** Promises 22 to 27 and 38 to 42: stains, which drops can have left them, and when. */
public final class StainTest {
    private static final int[] BAD_TICKS = {0, 61, -1, Integer.MIN_VALUE, Integer.MAX_VALUE};
    private static final int[] BAD_NUMBERS = {-1, 12, Integer.MIN_VALUE, Integer.MAX_VALUE};

    private static RingDrop kit() {
        RingDrop r = new RingDrop();
        Check.law(r, "y:10");
        Check.law(r, "y:0");
        Check.drop(r, "k2,w100,l10");
        Check.drop(r, "k2,w10,l8");
        Check.drop(r, "x3,k3,w9,l4");
        Check.drop(r, "x3,k3,w9,l6");
        return r;
    }

    private static void told(RingDrop r, int stain, int from, int... grains) {
        for (int i = 0; i < grains.length; i++) {
            Check.yes("grain", r.grain(stain, from + i, grains[i]));
        }
    }

    private static void stains() {
        RingDrop r = kit();
        Check.no("no such stain", r.grain(0, 0, 1));
        for (int n = 0; n < 6; n++) {
            Check.same("stain", r.stain(), n);
            Check.same("count", r.count(3), n + 1);
            Check.same("all 0", r.blot(n, 0), 0);
        }
        Check.same("no rows", r.blot(0, 1), 0);
        Check.same("no grains", r.blot(0, 2), 0);
        Check.same("a seventh", r.stain(), -1);
        Check.same("count", r.count(3), 6);
        Check.no("no such stain", r.grain(6, 0, 1));
        Check.no("no such stain", r.grain(-1, 0, 1));
        Check.no("no such cell", r.grain(0, 24, 1));
        Check.no("no such cell", r.grain(0, -1, 1));
        Check.no("too many", r.grain(0, 0, 10000));
        Check.no("too few", r.grain(0, 0, -1));
        Check.same("nothing changed", r.blot(0, 0), 0);
        Check.yes("9,999", r.grain(0, 23, 9999));
        Check.same("it has them", r.blot(0, 2), 9999);
        Check.yes("fewer instead", r.grain(0, 23, 5));
        Check.same("it has them", r.blot(0, 2), 5);
        Check.yes("none", r.grain(0, 23, 0));
        Check.same("it has none", r.blot(0, 2), 0);
    }

    private static void blots() {
        RingDrop r = kit();
        r.stain();
        told(r, 0, 0, 1, 2, 0, 9, 0, 1, 1, 1, 0);
        told(r, 0, 22, 3, 4);
        int[] due = {4, 3, 9};
        for (int what = 0; what < 3; what++) {
            Check.same("blot " + what, r.blot(0, what), due[what]);
        }
        r.grain(0, 2, 7);
        int[] joined = {3, 4, 19};
        for (int what = 0; what < 3; what++) {
            Check.same("blot " + what, r.blot(0, what), joined[what]);
        }
        for (int c = 0; c < 24; c++) {
            r.grain(0, c, 9999);
        }
        int[] full = {1, 24, 239976};
        for (int what = 0; what < 3; what++) {
            Check.same("blot " + what, r.blot(0, what), full[what]);
        }
        Check.same("no such what", r.blot(0, 3), -1);
        Check.same("no such what", r.blot(0, -1), -1);
        Check.same("no such stain", r.blot(1, 0), -1);
        Check.same("no such stain", r.blot(-1, 0), -1);
    }

    private static void prints() {
        RingDrop r = kit();
        Check.same("no such stain", r.print(0), -1);
        r.stain();
        r.grain(0, 9, 9);
        Check.same("nothing lies", r.print(0), 0);
        Check.same("the stain is that", r.blot(0, 0), 0);
        Check.same("no such stain", r.print(1), -1);
        Check.same("no such stain", r.print(-1), -1);
        int mixed = Check.drop(r, "x6,k2,w9,g3,l5");
        r.start(0, 1 << mixed, Check.seedFor(0, 0));
        r.grain(0, 9, 9);
        r.tick(1);
        Check.same("of both sorts", r.print(0), 8);
        Check.same("one row", r.blot(0, 0), 1);
        Check.same("of two", r.blot(0, 1), 2);
        r.stain();
        told(r, 1, 16, 3, 5);
        Check.same("5 and 3, turned", r.turned(0, 1), 0);
    }

    private static void reads() {
        RingDrop r = kit();
        r.stain();
        told(r, 0, 0, 5, 4);
        r.start(0, 4, 1);
        Check.same("none by 0", r.read(0, 0, 15, 9, 60, 0), 0);
        Check.same("5 5 and 4 4 by 1", r.read(0, 0, 15, 9, 60, 1), 3);
        Check.same("one of them asked", r.read(0, 0, 14, 9, 60, 1), 2);
        Check.same("2 1 1 and 2 2 2 at 3 by 5", r.read(0, 0, 15, 9, 60, 5), 15);
        Check.same("by 4", r.read(0, 0, 15, 9, 60, 4), 3);
        Check.same("too early", r.read(0, 0, 15, 9, 4, 1), 2);
        Check.same("by 99", r.read(0, 1, 15, 9, 4, 99), 15);
        Check.same("no drops", r.read(0, 0, 0, 9, 60, 1), 0);
        r.grain(0, 23, 2);
        Check.same("another cell", r.read(0, 0, 15, 9, 60, 1), 0);
        r.grain(0, 23, 0);
        r.grain(0, 1, 5);
        Check.same("5 5 by 0", r.read(0, 0, 15, 9, 60, 0), 1);
        Check.same("a weight of 1 at first", r.odds(0, 0, 15, 9, 60, 0), 1);
        r.grain(0, 1, 4);
        Check.yes("weigh", r.weigh(0, 9));
        Check.yes("weigh", r.weigh(3, 2));
        Check.no("weigh 0", r.weigh(1, 0));
        Check.no("weigh 10", r.weigh(1, 10));
        Check.no("no such drop", r.weigh(4, 1));
        Check.no("no such drop", r.weigh(-1, 1));
        Check.same("odds", r.odds(0, 0, 15, 9, 60, 1), 10);
        Check.same("odds", r.odds(0, 0, 15, 9, 60, 5), 13);
        Check.same("odds of none", r.odds(0, 0, 15, 9, 60, 0), 0);
        Check.same("odds of no drops", r.odds(0, 0, 0, 9, 60, 5), 0);
        Check.yes("weigh anew", r.weigh(0, 1));
        Check.same("odds", r.odds(0, 0, 15, 9, 60, 1), 2);
        for (int bad : BAD_NUMBERS) {
            Check.same("stain " + bad, r.read(bad, 0, 15, 9, 60, 1), -1);
            Check.same("stain " + bad, r.odds(bad, 0, 15, 9, 60, 1), -1);
            Check.same("law " + bad, r.read(0, bad, 0, 9, 60, 1), -1);
            Check.same("law " + bad, r.odds(0, bad, 0, 9, 60, 1), -1);
        }
        for (int bits : new int[] {16, 31, -1, Integer.MIN_VALUE}) {
            Check.same("drops " + bits, r.read(0, 0, bits, 9, 60, 1), -1);
            Check.same("drops " + bits, r.odds(0, 0, bits, 9, 60, 1), -1);
        }
        for (int n : BAD_TICKS) {
            Check.same("ticks " + n, r.read(0, 0, 0, 9, n, 1), -1);
            Check.same("ticks " + n, r.odds(0, 0, 0, 9, n, 1), -1);
        }
        for (int by : new int[] {-1, 100, Integer.MIN_VALUE}) {
            Check.same("by " + by, r.read(0, 0, 0, 9, 60, by), -1);
            Check.same("by " + by, r.odds(0, 0, 0, 9, 60, by), -1);
        }
        Check.same("the strip is as it was", r.about(8), 4);
    }

    private static void turns() {
        RingDrop r = kit();
        r.stain();
        r.stain();
        Check.same("empty ones", r.turned(0, 1), 0);
        told(r, 0, 0, 1, 2, 3);
        Check.same("three cells", r.turned(0, 1), 3);
        told(r, 1, 21, 3, 2, 1);
        Check.same("read from right to left", r.turned(0, 1), 0);
        Check.same("and the other way", r.turned(1, 0), 0);
        Check.same("itself", r.turned(0, 0), 6);
        r.grain(1, 22, 9);
        Check.same("one cell", r.turned(0, 1), 1);
        for (int bad : new int[] {2, -1, Integer.MAX_VALUE}) {
            Check.same("no such stain", r.turned(0, bad), -1);
            Check.same("no such stain", r.turned(bad, 0), -1);
            Check.same("no such stain", r.join(0, bad), -1);
            Check.same("no such stain", r.join(bad, 0), -1);
        }
    }

    private static void joins() {
        RingDrop r = kit();
        r.stain();
        r.stain();
        told(r, 0, 0, 1, 2, 9990);
        told(r, 1, 1, 4, 9, 7);
        Check.same("one stain", r.join(0, 0), -1);
        Check.same("joined", r.join(0, 1), 1 + 6 + 9999 + 7);
        Check.same("the other is as it was", r.blot(1, 2), 20);
        Check.same("once more: 10 + 9,999 + 14", r.join(0, 1), 1 + 10 + 9999 + 14);
        Check.same("the other way", r.join(1, 0), 1 + 14 + 9999 + 21);
    }

    private static void steps() {
        RingDrop r = kit();
        r.stain();
        r.start(0, 4, 1);
        int[][] due = {{0, 0, 1, 0}, {2, 2, 1, 4}, {2, 3, 1, 5}, {3, 3, 5, 4}, {5, 5, 5, 0}, {9, 1, 5, 8}};
        for (int[] d : due) {
            told(r, 0, 0, d[0], d[1]);
            Check.same("tick for " + d[0] + " " + d[1], r.steps(0, 0, 0, 9, 0), d[2]);
            Check.same("off " + d[0] + " " + d[1], r.steps(0, 0, 0, 9, 1), d[3]);
        }
        told(r, 0, 0, 4, 4);
        Check.same("the one that is dry at once", r.steps(0, 0, 1, 9, 0), 1);
        Check.same("off", r.steps(0, 0, 1, 9, 1), 0);
        Check.same("never dry", r.steps(0, 1, 0, 9, 0), 1);
        Check.same("off", r.steps(0, 1, 0, 9, 1), 8);
        int late = Check.law(r, "y:t=59?w");
        int later = Check.law(r, "y:t=60?w");
        told(r, 0, 0, 5, 5);
        Check.same("tick 60", r.steps(0, late, 0, 9, 0), 60);
        Check.same("off", r.steps(0, late, 0, 9, 1), 0);
        Check.same("not later", r.steps(0, later, 0, 9, 0), 1);
        Check.same("off", r.steps(0, later, 0, 9, 1), 10);
        Check.same("no such what", r.steps(0, 0, 0, 9, 2), -1);
        Check.same("no such what", r.steps(0, 0, 0, 9, -1), -1);
        for (int bad : BAD_NUMBERS) {
            Check.same("stain " + bad, r.steps(bad, 0, 0, 9, 0), -1);
            Check.same("law " + bad, r.steps(0, bad, 0, 9, 0), -1);
            Check.same("drop " + bad, r.steps(0, 0, bad, 9, 0), -1);
            Check.same("stain " + bad, r.saved(bad, 0, 1, 9), -1);
            Check.same("law " + bad, r.saved(0, bad, 1, 9), -1);
        }
        Check.same("the strip is as it was", r.about(8), 4);
    }

    private static void saves() {
        RingDrop r = kit();
        r.stain();
        told(r, 0, 0, 4, 4);
        Check.same("saved", r.saved(0, 0, 15, 9), 1);
        Check.same("of the others 5 5 is 2 off", r.saved(0, 0, 13, 9), 0);
        Check.same("2 1 1 besides is 12 off, 2 2 2 is 14", r.saved(0, 0, 12, 9), 2);
        Check.same("one", r.saved(0, 0, 8, 9), 3);
        Check.same("several: the lowest", r.saved(0, 1, 14, 9), 1);
        Check.same("several: the lowest", r.saved(0, 1, 12, 9), 2);
        told(r, 0, 0, 5, 5);
        Check.same("saved without being off", r.saved(0, 0, 3, 9), 0);
        int twin = Check.drop(r, "k2,w100,l10");
        Check.same("twins: the lowest", r.saved(0, 0, 1 | 1 << twin, 9), 0);
        Check.same("no drops", r.saved(0, 0, 0, 9), -1);
        Check.same("no such drops", r.saved(0, 0, 32, 9), -1);
        Check.same("no such drops", r.saved(0, 0, -1, 9), -1);
    }

    public static void main(String[] args) {
        stains();
        blots();
        prints();
        reads();
        turns();
        joins();
        steps();
        saves();
        Check.finish("StainTest");
    }
}
