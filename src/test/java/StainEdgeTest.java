/** The edges that the document names of stains (promises 22 to 27, 38 to 42). */
public final class StainEdgeTest extends Check {
    private static final int[] FAR = {-1, 6, Integer.MIN_VALUE, Integer.MAX_VALUE};
    private static final int[] NO_TICKS = {0, 61, -1, Integer.MIN_VALUE, Integer.MAX_VALUE};

    private static RingDrop withStains(int many, String law, String... drops) {
        RingDrop r = with(law, drops);
        for (int n = 0; n < many; n++) {
            same("stain", r.stain(), n);
        }
        return r;
    }

    private static void told(RingDrop r, int stain, int from, int... grains) {
        for (int i = 0; i < grains.length; i++) {
            yes("grain " + (from + i), r.grain(stain, from + i, grains[i]));
        }
    }

    // ---- 22, 23: stain and grain ----

    private static void sixStains() {
        RingDrop r = new RingDrop();
        no("none yet", r.grain(0, 0, 0));
        for (int n = 0; n < 6; n++) {
            same("stain", r.stain(), n);
            same("all 0", r.blot(n, 0), 0);
        }
        same("a seventh", r.stain(), -1);
        same("six", r.count(3), 6);
        same("and again", r.stain(), -1);
        for (int far : FAR) {
            no("stain " + far, r.grain(far, 0, 1));
        }
        yes("the sixth", r.grain(5, 0, 1));
        same("it alone", r.blot(4, 0), 0);
    }

    private static void grainsToldForCells() {
        RingDrop r = withStains(1, "y:0", "k2");
        for (int v : new int[] {1, 9998, 9999}) {
            yes("grain " + v, r.grain(0, 0, v));
            same("it has them", r.blot(0, 2), v);
        }
        for (int v : new int[] {10000, -1, Integer.MIN_VALUE, Integer.MAX_VALUE}) {
            no("grain " + v, r.grain(0, 0, v));
            same("as it was", r.blot(0, 2), 9999);
        }
        yes("none", r.grain(0, 0, 0));
        same("none", r.blot(0, 2), 0);
        for (int cell : new int[] {-1, 24, Integer.MIN_VALUE, Integer.MAX_VALUE}) {
            no("cell " + cell, r.grain(0, cell, 1));
        }
        same("none in any", r.blot(0, 0), 0);
        yes("the first", r.grain(0, 0, 1));
        yes("the last", r.grain(0, 23, 1));
        same("two", r.blot(0, 0), 2);
    }

    // ---- 24: print ----

    private static void printIsWhatLies() {
        RingDrop r = withStains(2, "y:w", "k3,w9,g2,l4");
        told(r, 0, 0, 9, 9, 9, 9);
        told(r, 0, 23, 9);
        same("nothing lies", r.print(0), 0);
        same("nothing is left of what was", r.blot(0, 0), 0);
        r.start(0, 1, seedFor(0, 0, 0));
        same("FREE ones do not lie", r.print(0), 0);
        r.tick(1);
        same("of both sorts", r.print(0), 6);
        told(r, 1, 21, 1, 2, 3);
        same("3 2 1", r.turned(0, 1), 0);
        r.start(0, 1, 0);
        same("the stain stays", r.blot(0, 2), 6);
        for (int far : FAR) {
            same("stain " + far, r.print(far), -1);
        }
        same("stain 2", r.print(2), -1);
    }

    /** Eleven drops that are one of 23 cells, whose middle loses all in each tick: the grains go there. */
    private static void printOfMoreThanIsTold() {
        RingDrop r = new RingDrop();
        law(r, "y:t=59?w;y:i=11?w");
        drop(r, "k3,w999,g999,c99");
        for (int n = 0; n < 10; n++) {
            drop(r, "x" + (3 + 2 * n) + ",k2,w999,g999,c99");
        }
        r.stain();
        r.stain();
        r.start(0, 2047, 0);
        r.tick(60);
        int middle = r.lies(11, 0);
        yes("more than can be told", middle > 9999);
        same("all of them", r.print(0), r.about(3));
        same("as they lie", r.blot(0, 2), 11 * 999);
        same("joined to none: 9,999 in the middle", r.join(1, 0), 11 * 999 - middle + 9999);
    }

    // ---- 25 to 27: read, weigh, odds ----

    private static void readByNoMoreThanBy() {
        RingDrop r = withStains(1, "y:w", "k2,w9,l198", "x22,k2,w9,l3", "k2,w9");
        same("99 more than 0, by 98", r.read(0, 0, 1, 0, 1, 98), 0);
        same("99 more than 0, by 99", r.read(0, 0, 1, 0, 1, 99), 1);
        same("none of none", r.read(0, 0, 4, 0, 1, 0), 4);
        told(r, 0, 0, 99, 99);
        same("99 and 99, by 0", r.read(0, 0, 7, 0, 1, 0), 1);
        same("99 fewer, by 98", r.read(0, 0, 4, 0, 1, 98), 0);
        same("99 fewer, by 99", r.read(0, 0, 4, 0, 1, 99), 4);
        told(r, 0, 0, 0, 0);
        told(r, 0, 22, 2, 0);
        same("the last cell is off by one", r.read(0, 0, 2, 0, 1, 0), 0);
        same("the last cell is off by one", r.read(0, 0, 2, 0, 1, 1), 2);
        told(r, 0, 22, 2, 1);
        same("2 and 1", r.read(0, 0, 7, 0, 1, 0), 2);
        told(r, 0, 0, 1);
        same("and one in the first cell", r.read(0, 0, 7, 0, 1, 0), 0);
        same("no drops", r.read(0, 0, 0, 0, 1, 0), 0);
        same("odds of no drops", r.odds(0, 0, 0, 0, 1, 0), 0);
        for (int by : new int[] {-1, 100, Integer.MIN_VALUE, Integer.MAX_VALUE}) {
            same("by " + by, r.read(0, 0, 1, 0, 1, by), -1);
            same("by " + by, r.odds(0, 0, 1, 0, 1, by), -1);
        }
        for (int n : NO_TICKS) {
            same("ticks " + n, r.read(0, 0, 1, 0, n, 0), -1);
            same("ticks " + n, r.odds(0, 0, 1, 0, n, 0), -1);
        }
        for (int far : FAR) {
            same("stain " + far, r.read(far, 0, 1, 0, 1, 0), -1);
            same("stain " + far, r.odds(far, 0, 1, 0, 1, 0), -1);
            same("law " + far, r.read(0, far, 0, 0, 1, 0), -1);
            same("law " + far, r.odds(0, far, 0, 0, 1, 0), -1);
        }
        for (int bits : new int[] {8, 9, -1, Integer.MIN_VALUE}) {
            same("bits " + bits, r.read(0, 0, bits, 0, 1, 0), -1);
            same("bits " + bits, r.odds(0, 0, bits, 0, 1, 0), -1);
        }
    }

    private static void readWithoutDrops() {
        RingDrop r = withStains(1, "y:w");
        same("none there, none asked", r.read(0, 0, 0, 0, 1, 0), 0);
        same("none there, one asked", r.read(0, 0, 1, 0, 1, 0), -1);
        same("saved of none", r.saved(0, 0, 0, 0), -1);
    }

    private static void readOfTheTicks() {
        RingDrop r = withStains(1, "y:t=59?w", "k2,w900,l2");
        told(r, 0, 0, 1, 1);
        same("in 59", r.read(0, 0, 1, 0, 59, 0), 0);
        same("in 60", r.read(0, 0, 1, 0, 60, 0), 1);
        same("odds in 59", r.odds(0, 0, 1, 0, 59, 0), 0);
        same("odds in 60", r.odds(0, 0, 1, 0, 60, 0), 1);
    }

    private static void weightsOfTwelve() {
        RingDrop r = withStains(1, "y:w");
        for (int d = 0; d < 12; d++) {
            drop(r, "k2,w9");
        }
        same("1 at first", r.odds(0, 0, 4095, 0, 1, 0), 12);
        for (int d = 0; d < 12; d++) {
            yes("weigh", r.weigh(d, 9));
        }
        same("9 each", r.odds(0, 0, 4095, 0, 1, 0), 108);
        same("of the last", r.odds(0, 0, 2048, 0, 1, 0), 9);
        for (int weight : new int[] {0, 10, -1, Integer.MIN_VALUE, Integer.MAX_VALUE}) {
            no("weight " + weight, r.weigh(0, weight));
        }
        for (int far : new int[] {-1, 12, Integer.MIN_VALUE, Integer.MAX_VALUE}) {
            no("drop " + far, r.weigh(far, 1));
        }
        same("as they were", r.odds(0, 0, 4095, 0, 1, 0), 108);
        yes("1 again", r.weigh(11, 1));
        same("one is lighter", r.odds(0, 0, 4095, 0, 1, 0), 100);
        no("of no drop", new RingDrop().weigh(0, 1));
    }

    // ---- 38: turned ----

    private static void turnedFromTheLastCell() {
        RingDrop r = withStains(2, "y:0");
        same("two empty ones", r.turned(0, 1), 0);
        told(r, 0, 0, 5);
        same("the other has none", r.turned(0, 1), 1);
        told(r, 1, 23, 5);
        same("first and last", r.turned(0, 1), 0);
        same("and the other way about", r.turned(1, 0), 0);
        same("itself", r.turned(0, 0), 2);
        told(r, 0, 23, 5);
        same("itself, with both ends", r.turned(0, 0), 0);
        told(r, 0, 11, 1);
        told(r, 1, 12, 1);
        same("the middle ones are one another's; cell 23 is not", r.turned(0, 1), 1);
        told(r, 1, 11, 9);
        same("and cell 12", r.turned(0, 1), 2);
        for (int c = 0; c < 24; c++) {
            r.grain(0, c, 1);
            r.grain(1, c, 2);
        }
        same("all of them", r.turned(0, 1), 24);
        for (int far : new int[] {-1, 2, Integer.MIN_VALUE, Integer.MAX_VALUE}) {
            same("one " + far, r.turned(far, 0), -1);
            same("other " + far, r.turned(0, far), -1);
            same("join to " + far, r.join(far, 0), -1);
            same("join of " + far, r.join(0, far), -1);
        }
    }

    // ---- 39: join ----

    private static void joinedToNineThousand() {
        RingDrop r = withStains(3, "y:0");
        told(r, 0, 0, 9998, 9999, 0, 5000);
        told(r, 1, 0, 1, 1, 9999, 5000);
        same("one stain", r.join(0, 0), -1);
        same("joined", r.join(0, 1), 4 * 9999);
        same("the other is as it was", r.blot(1, 2), 1 + 1 + 9999 + 5000);
        same("with an empty one", r.join(0, 2), 4 * 9999);
        same("an empty one", r.join(2, 1), 15001);
        same("it is not that stain, but as much", r.join(2, 1), 2 + 2 + 9999 + 9999);
        same("the other is as it was", r.blot(1, 2), 15001);
    }

    // ---- 40: blot ----

    private static void blots(int due0, int due1, int due2, int... grains) {
        RingDrop r = withStains(1, "y:0");
        told(r, 0, 0, grains);
        same("how many", r.blot(0, 0), due0);
        same("the longest", r.blot(0, 1), due1);
        same("the fullest", r.blot(0, 2), due2);
    }

    private static void rowsOfCells() {
        blots(0, 0, 0);
        blots(1, 1, 7, 7);
        blots(1, 1, 7, 0, 0, 0, 0, 0, 0, 0, 0, 0, 0, 0, 0, 0, 0, 0, 0, 0, 0, 0, 0, 0, 0, 0, 7);
        blots(2, 1, 7, 7, 0, 6);
        blots(1, 2, 13, 7, 6);
        blots(12, 1, 5, 1, 0, 1, 0, 1, 0, 1, 0, 5, 0, 1, 0, 1, 0, 1, 0, 1, 0, 1, 0, 1, 0, 1);
        // The fullest need not be the longest.
        blots(2, 3, 9, 1, 1, 1, 0, 9);
        blots(2, 3, 9, 9, 0, 1, 1, 1);
        blots(3, 2, 8, 4, 4, 0, 1, 1, 0, 2);
        RingDrop r = withStains(1, "y:0");
        for (int what : new int[] {-1, 3, Integer.MIN_VALUE, Integer.MAX_VALUE}) {
            same("what " + what, r.blot(0, what), -1);
        }
        for (int far : FAR) {
            same("stain " + far, r.blot(far, 0), -1);
        }
        same("stain 1", r.blot(1, 0), -1);
    }

    // ---- 41, 42: steps and saved ----

    private static void stepsFromOneToSixty() {
        RingDrop r = withStains(1, "y:t=59?w", "k2,w900,l4");
        law(r, "y:t=60?w");
        law(r, "y:w");
        law(r, "y:t=1?w");
        same("none lie: the first", r.steps(0, 0, 0, 0, 0), 1);
        same("none off", r.steps(0, 0, 0, 0, 1), 0);
        told(r, 0, 0, 2, 2);
        int[][] due = {{60, 0}, {1, 4}, {1, 0}, {2, 0}};
        for (int law = 0; law < 4; law++) {
            same("tick by " + law, r.steps(0, law, 0, 0, 0), due[law][0]);
            same("off by " + law, r.steps(0, law, 0, 0, 1), due[law][1]);
        }
        told(r, 0, 0, 1, 1);
        same("2 off with none, 2 with all: the first", r.steps(0, 3, 0, 0, 0), 1);
        same("2 off", r.steps(0, 3, 0, 0, 1), 2);
        told(r, 0, 23, 5);
        same("and another cell", r.steps(0, 3, 0, 0, 1), 7);
        for (int what : new int[] {-1, 2, Integer.MIN_VALUE, Integer.MAX_VALUE}) {
            same("what " + what, r.steps(0, 0, 0, 0, what), -1);
        }
        for (int far : FAR) {
            same("stain " + far, r.steps(far, 0, 0, 0, 0), -1);
            same("law " + far, r.steps(0, far, 0, 0, 0), -1);
            same("drop " + far, r.steps(0, 0, far, 0, 0), -1);
            same("saved of stain " + far, r.saved(far, 0, 1, 0), -1);
            same("saved by law " + far, r.saved(0, far, 1, 0), -1);
        }
    }

    private static void savedWithTheLeastOff() {
        RingDrop r = withStains(1, "y:w", "k2,w9,l4", "k2,w9,l6", "x5,k2,w9,l6", "k2,w9,l2", "k2,w9,l6");
        told(r, 0, 0, 3, 3);
        same("3 3", r.saved(0, 0, 31, 0), 1);
        same("the fifth is like it", r.saved(0, 0, 16 | 2, 0), 1);
        same("the fifth", r.saved(0, 0, 16 | 1, 0), 4);
        same("2 off, and 4", r.saved(0, 0, 1 | 8, 0), 0);
        same("4 off, and 12", r.saved(0, 0, 4 | 8, 0), 3);
        same("the first alone", r.saved(0, 0, 1, 0), 0);
        told(r, 0, 0, 0, 0);
        same("none told: 2 off, and 6", r.saved(0, 0, 8 | 16, 0), 3);
        for (int bits : new int[] {0, 32, 33, -1, Integer.MIN_VALUE}) {
            same("bits " + bits, r.saved(0, 0, bits, 0), -1);
        }
    }

    /** What counts is the tick that is least off, not the end. */
    private static void savedByAStepOnTheWay() {
        // 40 and 40 bear 20 each, 34 and 34 bear 17: 3 of 20 lie behind the first tick, all of them in the end.
        RingDrop r = withStains(1, "y:t=0?6;y:w", "k2,w80,l40", "k2,w9,l8");
        told(r, 0, 0, 3, 3);
        same("the first tick", r.steps(0, 0, 0, 0, 0), 1);
        same("none off", r.steps(0, 0, 0, 0, 1), 0);
        same("2 off", r.steps(0, 0, 1, 0, 1), 2);
        same("the one that is none off on the way", r.saved(0, 0, 3, 0), 0);
        told(r, 0, 0, 4, 4);
        same("2 off and none", r.saved(0, 0, 3, 0), 1);
        told(r, 0, 0, 20, 20);
        same("none off in the end", r.saved(0, 0, 3, 0), 0);
        same("the second tick", r.steps(0, 0, 0, 0, 0), 2);
    }

    public static void main(String[] args) {
        sixStains();
        grainsToldForCells();
        printIsWhatLies();
        printOfMoreThanIsTold();
        readByNoMoreThanBy();
        readWithoutDrops();
        readOfTheTicks();
        weightsOfTwelve();
        turnedFromTheLastCell();
        joinedToNineThousand();
        rowsOfCells();
        stepsFromOneToSixty();
        savedWithTheLeastOff();
        savedByAStepOnTheWay();
        finish("StainEdgeTest");
    }
}
