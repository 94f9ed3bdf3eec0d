/** The edges that the document names of a start, of a tick and of what is told of the strip (8 to 19, 32, 33, 43, 44). */
public final class StripEdgeTest extends Check {
    private static final int[] FAR = {-1, Integer.MIN_VALUE, Integer.MAX_VALUE};

    /** The one drop of a law, ticked so often from a seed whose draws move nothing. */
    private static RingDrop ticked(String law, String drop, int ticks) {
        RingDrop r = with(law, drop);
        r.start(0, 1, seedFor(0, 0, 0, 0));
        r.tick(ticks);
        return r;
    }

    // ---- 8: start ----

    private static void noSuchLawOrDrops() {
        RingDrop r = new RingDrop();
        same("no law", r.start(0, 1, 0), -1);
        law(r, "y:0");
        same("no drop", r.start(0, 1, 0), -1);
        same("no bits, no drop", r.start(0, 0, 0), -1);
        drop(r, "k2");
        same("no bits", r.start(0, 0, 0), -1);
        for (int bits : new int[] {2, 3, 4096, 4097, -1, Integer.MIN_VALUE, Integer.MIN_VALUE + 1, Integer.MAX_VALUE}) {
            same("bits " + bits, r.start(0, bits, 0), -1);
        }
        for (int law : FAR) {
            same("law " + law, r.start(law, 1, 0), -1);
        }
        same("law 1", r.start(1, 1, 0), -1);
        same("a refused one is no start", r.tick(1), -1);
        same("the one", r.start(0, 1, 0), 1);
    }

    private static void twoOnOneCell() {
        RingDrop r = with("y:0", "k3,w9", "x2,k2,w9", "x10,k8,w9", "x12,k2,w9", "x3,k2,w9", "x20,k4,w9", "x22,k2,w9", "k2,w9");
        r.start(0, 1, 0);
        same("by one cell", r.start(0, 1 | 2, 0), -1);
        same("one within another", r.start(0, 4 | 8, 0), -1);
        same("the last ones", r.start(0, 32 | 64, 0), -1);
        same("with one first cell", r.start(0, 1 | 128, 0), -1);
        same("the second and the fifth", r.start(0, 2 | 4 | 16, 0), -1);
        same("the first and the eighth", r.start(0, 1 | 4 | 32 | 128, 0), -1);
        same("the strip is as it was", r.body(0, 1), 2);
        same("one drop", r.about(7), 1);
        same("apart by no cell", r.start(0, 1 | 16, 0), 1);
    }

    private static void touchingOrNot() {
        RingDrop r = with("y:0", "x4,k2,w9,l1", "x6,k2,w9,l1", "x9,k2,w9,l1", "x11,k3,w9,l1", "k4,w9,l1");
        same("right behind", r.start(0, 3, 0), 1);
        same("first", r.body(0, 0), 4);
        same("last", r.body(0, 1), 7);
        same("a cell between", r.start(0, 2 | 4, 0), 2);
        same("last of the one", r.body(0, 1), 7);
        same("first of the other", r.body(1, 0), 9);
        same("two chains", r.start(0, 31, 0), 2);
        same("0 .. 7", r.body(0, 0) * 100 + r.body(0, 1), 7);
        same("9 .. 13", r.body(1, 0) * 100 + r.body(1, 1), 913);
        same("water of three", r.body(0, 2), 27);
    }

    private static void twelveThatTouch() {
        RingDrop r = new RingDrop();
        law(r, "y:0");
        for (int n = 0; n < 12; n++) {
            drop(r, "x" + 2 * n + ",k2,w1,l1");
        }
        same("all twelve are one", r.start(0, 4095, 0), 1);
        same("no 13th", r.start(0, 4096, 0), -1);
        same("no 13th besides", r.start(0, 8191, 0), -1);
        same("first", r.body(0, 0), 0);
        same("last", r.body(0, 1), 23);
        same("water", r.body(0, 2), 12);
        for (int c = 0; c < 24; c++) {
            same("one by one from the first", r.water(c), c < 12 ? 1 : 0);
            same("one by one from the first", r.free(c, 1), c < 12 ? 1 : 0);
        }
        same("every second", r.start(0, 0x555, 0), 6);
        same("the sixth", r.body(5, 0), 20);
        same("no seventh", r.body(6, 0), -1);
    }

    private static void allElseAsOfTheLowest() {
        RingDrop r = with("y:10", "x2,k2,w100,a50", "k2,w100");
        r.start(0, 3, 0);
        r.tick(1);
        same("air of the lowest, on the right", r.about(6), 20);
        RingDrop s = with("y:10", "k2,w100", "x2,k2,w100,a50");
        s.start(0, 3, 0);
        s.tick(1);
        same("none of the other's", s.about(6), 40);
        RingDrop t = with("y:m", "x4,k2,w100,m3", "x2,k2,w100,m5", "k2,w100,m7");
        t.start(0, 7, 0);
        t.tick(1);
        same("the lowest of three", t.about(6), 18);
        t.start(0, 6, 0);
        t.tick(1);
        same("the lowest of two", t.about(6), 20);
        RingDrop u = with("y:0", "x2,k2,w9,e99", "k2,w9,j9", "x4,k2,w9");
        u.start(0, 7, 0);
        u.tick(1);
        same("let and jump of the lowest", u.body(0, 0) * 100 + u.body(0, 1), 104);
        RingDrop v = with("y:k", "k2,w100", "x2,k2,w100", "x8,k2,w100");
        v.start(0, 7, 0);
        v.tick(1);
        same("the width of all together", v.about(6), 4 * 4 + 2 * 2);
    }

    private static void layoutGoesRound() {
        int[][] due = {{0, 0, 0}, {1, 0, 0}, {1, 1, 0}, {1, 1, 1}, {2, 1, 1}, {2, 2, 1}, {2, 2, 2}, {3, 2, 2}};
        for (int n = 0; n < due.length; n++) {
            RingDrop r = with("y:0", "x21,k3,g" + n + ",l" + (7 - n));
            r.start(0, 1, 0);
            free(r, 20, 0, 0);
            free(r, 21, 0, due[n]);
            free(r, 20, 1, 0);
            free(r, 21, 1, due[7 - n]);
        }
        RingDrop r = with("y:0", "k2,g3,l1", "x2,k3,g4,l9");
        r.start(0, 3, 0);
        free(r, 0, 0, 2, 2, 1, 1, 1, 0);
        free(r, 0, 1, 2, 2, 2, 2, 2, 0);
    }

    private static void allIsEmptied() {
        RingDrop r = with("y:w", "k3,w90,g9,l9", "x20,k2,w8");
        r.start(0, 1, 0);
        r.tick(1);
        same("18 lie", r.about(3), 18);
        r.start(0, 2, 0);
        int[] due = {0, 0, 0, 0, 0, 0, 0, 1, 0};
        for (int what = 0; what < 9; what++) {
            same("about " + what, r.about(what), due[what]);
        }
        same("rush", r.rush(0), -1);
        same("rush", r.rush(1), -1);
        same("came", r.came(1), -1);
        same("middle", r.middle(0), -1);
        same("speed", r.speed(), 0);
        for (int c = 0; c < 20; c++) {
            same("cell " + c, r.water(c) + r.free(c, 0) + r.free(c, 1) + r.lies(c, 0) + r.lies(c, 1) + r.heap(c, 0) + r.heap(c, 1)
                + Math.abs(r.flow(c)), 0);
        }
        water(r, 20, 4, 4);
    }

    // ---- SHAPE ----

    private static void shape(String drop, int from, int... due) {
        RingDrop r = with("y:0", drop);
        r.start(0, 1, 0);
        water(r, from, due);
    }

    private static void shapes() {
        shape("k2,w1", 0, 1, 0, 0);
        shape("k2,w2", 0, 1, 1, 0);
        shape("x22,k2,w3", 21, 0, 2, 1);
        shape("x5,k3,w10", 4, 0, 3, 4, 3, 0);
        shape("x5,k3,w11", 4, 0, 4, 4, 3, 0);
        shape("x5,k3,w9", 4, 0, 3, 4, 2, 0);
        shape("x5,k3,w8", 4, 0, 3, 3, 2, 0);
        shape("x5,k3,w2", 4, 0, 1, 1, 0, 0);
        shape("k24,w1", 0, 1, 0, 0);
        // i * (25 - i) of 2,600, times 23: 1 from 6 to 19, and nine are left.
        shape("k24,w23", 0, 1, 1, 1, 1, 1, 2, 2, 2, 2, 1, 1, 1, 1, 1, 1, 1, 1, 1, 1, 0, 0, 0, 0, 0);
    }

    private static void slopes() {
        shape("k2,w10,s0", 0, 5, 5);
        // 20 and 38 of 58, times 10.
        shape("k2,w10,s9", 0, 4, 6);
        shape("x9,k2,w10,s9", 9, 4, 6);
        // 20 and 22.
        shape("k2,w420,s1", 0, 200, 220);
        // 30, 76 and 84 of 190, times 100.
        shape("x21,k3,w100,s9", 21, 16, 40, 44);
    }

    // ---- 9: tick ----

    private static void howManyTicks() {
        RingDrop r = with("y:t=61?w", "k2,w9");
        same("no start", r.tick(1), -1);
        r.start(0, 1, 0);
        for (int n : new int[] {0, 61, -1, Integer.MIN_VALUE, Integer.MAX_VALUE}) {
            same("tick " + n, r.tick(n), -1);
            same("none was", r.about(5), 0);
        }
        same("one", r.tick(1), 1);
        same("sixty", r.tick(60), 60);
        same("as long as a drop is there", r.tick(60), 1);
        same("no drop is there", r.tick(1), 0);
        same("t", r.about(5), 62);
        same("refused though no drop is there", r.tick(61), -1);
    }

    // ---- (1) ----

    private static void goneInTicks(String law, String drop, int ticks, int due) {
        same("gone by " + law + " from " + drop, ticked(law, drop, ticks).about(6), due);
    }

    private static void airKeepsWater() {
        goneInTicks("y:1", "k2,w200,a99", 1, 2);
        goneInTicks("y:2", "k2,w200,a99", 1, 2);
        goneInTicks("y:100", "k2,w200,a99", 1, 2);
        goneInTicks("y:99", "k2,w200,a99", 1, 2);
        goneInTicks("y:7", "k2,w200,a50", 1, 8);
        goneInTicks("y:8", "k2,w200,a50", 1, 8);
        goneInTicks("y:9", "k2,w200,a1", 1, 18);
        goneInTicks("y:100", "k2,w200,a1", 1, 198);
        goneInTicks("y:9", "k2,w200,a0", 1, 18);
        // The WORTH is within the WATER ahead of the AIR.
        goneInTicks("y:9999", "k2,w200,a50", 1, 100);
    }

    private static void lettersOfALaw() {
        goneInTicks("y:i", "k2,w99", 1, 0);
        goneInTicks("y:i", "k4,w99", 1, 2);
        goneInTicks("y:i", "x3,k5,w99", 1, 4);
        goneInTicks("y:i", "k24,w999", 1, 132);
        goneInTicks("y:i*100+w*0", "k3,w900", 1, 100);
        goneInTicks("y:w/10", "k3,w900", 1, 27 + 36 + 27);
        goneInTicks("y:t+1", "k2,w200", 3, 12);
        goneInTicks("y:g", "k2,w400,g5,l4,c99", 1, 9);
        goneInTicks("y:m", "k2,w400,m99", 1, 198);
        goneInTicks("y:a*2", "k2,w400,a10", 1, 36);
        goneInTicks("y:k", "k4,w400", 1, 16);
        // 20 30 30 20 lose 4 each and let go; two cells are left.
        goneInTicks("y:k", "k4,w100,e99", 2, 20);
        goneInTicks("y:i", "k4,w100,e99", 2, 2);
        // All of the first tick lie, none are free.
        goneInTicks("y:g", "k2,w400,g10,c99", 2, 20);
        // Of 5 in each 2 stay free.
        goneInTicks("y:g", "k2,w50,g10,c1", 2, 14);
    }

    // ---- (2) ----

    private static void lets(String drop, int ticks, int first, int last, int lets) {
        RingDrop r = ticked("y:0", drop, ticks);
        same("first of " + drop, r.body(0, 0), first);
        same("last of " + drop, r.body(0, 1), last);
        same("lets of " + drop, r.body(0, 3), lets);
    }

    private static void whenItLetsGo() {
        lets("k4,w40,e10", 1, 0, 3, 0);
        lets("k4,w39,e10", 1, 1, 2, 1);
        lets("k4,w1,e0", 9, 0, 3, 0);
        lets("k4,w4,e1", 9, 0, 3, 0);
        lets("k4,w3,e1", 1, 1, 2, 1);
        lets("x1,k3,w1,e99", 9, 1, 3, 0);
        lets("x1,k4,w1,e99", 9, 2, 3, 1);
        lets("k5,w1,e99,j2", 9, 0, 4, 0);
        lets("k6,w1,e99,j2", 9, 2, 3, 1);
        lets("k19,w1,e99,j9", 9, 0, 18, 0);
        lets("x2,k20,w1,e99,j9", 9, 11, 12, 1);
        lets("k24,w1,e99,j9", 9, 9, 14, 1);
        // Once in a tick, though it could again.
        lets("k9,w1,e99", 1, 1, 7, 1);
        lets("k9,w1,e99", 2, 2, 6, 2);
        lets("k9,w1,e99", 60, 3, 5, 3);
    }

    private static void letsGoByTheWaterLeft() {
        RingDrop r = ticked("y:i=0?1;y:0", "k4,w41,e10", 1);
        same("39 are left", r.body(0, 3), 1);
        r = ticked("y:i=0?1;y:0", "k4,w42,e10", 1);
        same("40 are left", r.body(0, 3), 0);
    }

    private static void endsLieDown() {
        RingDrop r = ticked("y:0", "k6,w60,g12,l6,e99,j2,c99", 1);
        lies(r, 0, 0, 2, 2, 0, 0, 2, 2, 0);
        lies(r, 0, 1, 1, 1, 0, 0, 1, 1, 0);
        free(r, 0, 0, 0, 0, 2, 2, 0, 0);
        free(r, 0, 1, 0, 0, 1, 1, 0, 0);
        same("three of both sorts are in rows", r.heap(0, 0), 3);
        same("none in the heap", r.about(4), 0);
        same("came", r.came(1), 12);
        same("rush", r.rush(1), 12);
        r = with("y:0", "k6,w60,g12,l6,e99,j2,c99");
        r.pace(2);
        r.start(0, 1, 0);
        r.tick(1);
        same("three are more than two", r.heap(0, 1), 3);
        same("none in rows", r.heap(5, 0), 0);
    }

    private static void waterGoesToTheNewEnd() {
        // 40, 114, 168 and 148 of 470, times 100.
        RingDrop r = with("y:0", "k4,w100,s9,e99");
        r.start(0, 1, 0);
        water(r, 0, 9, 25, 35, 31);
        r.tick(1);
        // 34 and 66 become 20 and 38 of 58, times 100.
        water(r, 0, 0, 35, 65, 0);
        flow(r, 0, 0, -1, 0, 0);
        same("speed", r.speed(), 0);
        same("none went off", r.about(6), 0);
    }

    // ---- (3), (4) ----

    private static void noneFromADryCell() {
        // 30 40 30 become 30 0 0, and 9 12 9; of 7 in the first 7 * 21 / 30 go.
        RingDrop r = ticked("y:i=1|g=6?w", "k3,w100,g20,c99", 1);
        flow(r, 0, 21, 9, 0);
        free(r, 0, 0, 3, 11, 6);
        same("the 9 alone are outward", r.speed(), 9);
        r = ticked("y:i=1|g=6?w", "x21,k3,w100,g20,c99", 1);
        flow(r, 20, 0, 21, 9, 0);
        free(r, 20, 0, 0, 3, 11, 6);
        same("the 9 alone are outward", r.speed(), 9);
        // 0 0 30 become 9 12 9; of 6 in the last 6 * 21 / 30 go.
        r = with("y:i=1|t=0&g=7?w", "k3,w100,g20,c99");
        r.start(0, 1, seedFor(0, 0, 0));
        r.tick(1);
        flow(r, 0, -9, -21, 0);
        free(r, 0, 0, 7, 11, 2);
        same("speed", r.speed(), 9);
    }

    private static void noMoreThanAll() {
        // 30 1 0 become 10 12 9: 7 * 20 / 30 go, and then 11 * 9 / 1 would.
        String law = "y:i=1?w-1;y:g=6?w";
        RingDrop r = ticked(law, "k3,w100,g20,c99", 1);
        water(r, 0, 10, 12, 9);
        flow(r, 0, 20, 9, 0);
        free(r, 0, 0, 3, 0, 17);
        // The pull is of all 9 in the middle: 4 of them go.
        free(ticked(law, "k3,w100,g20,c99,p50", 1), 0, 0, 5, 5, 10);
        free(ticked(law, "k3,w100,g20,c99,p100", 1), 0, 0, 7, 7, 6);
        free(ticked(law, "k3,w100,g20,c99,p99", 1), 0, 0, 7, 7, 6);
    }

    private static void pullOfAHundredHoldsAll() {
        // 0 100 become 50 50: half of 200 go, less the pull.
        String law = "y:g=201?w";
        free(ticked(law, "k2,w200,g401,c99,p0", 1), 0, 0, 301, 100);
        free(ticked(law, "k2,w200,g401,c99,p1", 1), 0, 0, 300, 101);
        free(ticked(law, "k2,w200,g401,c99,p99", 1), 0, 0, 202, 199);
        free(ticked(law, "k2,w200,g401,c99,p100", 1), 0, 0, 201, 200);
    }

    private static void longOnesHold() {
        // The first cell is dry then: 0 50 become 25 25, and half of what is in the last cell would go.
        RingDrop held = ticked("y:g=10?0;y:w", "k2,w100,g18,l3,c99", 1);
        // 9 and 9 round, 2 and 1 long: in the last 1 of 10 is long, and they hold.
        water(held, 0, 25, 25);
        free(held, 0, 0, 9, 9);
        free(held, 0, 1, 2, 1);
        RingDrop let = ticked("y:g=11?0;y:w", "k2,w100,g20,l3,c99", 1);
        // 10 and 10 round, 2 and 1 long: in the last 1 of 11 is long.
        water(let, 0, 25, 25);
        free(let, 0, 0, 15, 5);
        free(let, 0, 1, 2, 1);
        RingDrop none = ticked("y:g=1?0;y:w", "k2,w100,g3,c99", 1);
        // 2 and 1 round, none long: 1 * 25 / 50 goes, cut.
        free(none, 0, 0, 2, 1);
        RingDrop alone = ticked("y:g=2?0;y:w", "k2,w100,l5,c99", 1);
        // Long ones alone hold one another.
        free(alone, 0, 1, 3, 2);
    }

    private static void bothSortsGo() {
        // In the last cell 49 round and 4 long; half of each goes.
        RingDrop r = ticked("y:g=53?0;y:w", "k2,w100,g99,l9,c99", 1);
        water(r, 0, 25, 25);
        free(r, 0, 0, 74, 25);
        free(r, 0, 1, 7, 2);
    }

    // ---- (5) ----

    private static void warmthOfFifty() {
        // As in bothSortsGo(): 74 25 and 7 2; half of 49 and half of 5 more go.
        RingDrop r = ticked("y:g=53?0;y:w", "k2,w100,g99,l9,c99,m50", 1);
        free(r, 0, 0, 50, 49);
        free(r, 0, 1, 5, 4);
        r = ticked("y:g=53?0;y:w", "k2,w100,g99,l9,c99,m49", 1);
        free(r, 0, 0, 74, 25);
        free(r, 0, 1, 7, 2);
        // As in noMoreThanAll(): 3 0 17; one of 3 goes to the right, then half of 16 to the left.
        r = ticked("y:i=1?w-1;y:g=6?w", "k3,w100,g20,c99,m99", 1);
        free(r, 0, 0, 2, 9, 9);
        // One more is not two more.
        r = ticked("y:0", "k3,w100,g4,l5,c99,m99", 5);
        free(r, 0, 1, 2, 2, 1);
    }

    private static void warmthAheadOfWandering() {
        RingDrop r = with("y:g=53?0;y:w", "k2,w100,g99,l9,c99,m50");
        r.start(0, 1, seedFor(2, 0));
        r.tick(1);
        free(r, 0, 0, 49, 50);
        free(r, 0, 1, 5, 4);
    }

    // ---- (6) ----

    private static void drawsFromAnySeed() {
        RingDrop r = with("y:0", "k24,w999,g24,l24,c99");
        for (long seed : new long[] {0, 1, -1, Long.MIN_VALUE, Long.MAX_VALUE, 1L << 33, -1L << 33}) {
            r.start(0, 1, seed);
            r.tick(1);
            int[] due = new int[24];
            java.util.Arrays.fill(due, 1);
            int[] draws = draws(seed, 24);
            for (int c = 0; c < 24; c++) {
                int to = draws[c] == 1 ? c - 1 : draws[c] == 2 ? c + 1 : c;
                if (due[c] > 0 && to >= 0 && to < 24) {
                    due[c]--;
                    due[to]++;
                }
            }
            free(r, 0, 0, due);
            same("long ones stay", r.free(0, 1), 1);
        }
    }

    private static void noneWanderBeyondTheDrop() {
        RingDrop r = with("y:0", "x5,k2,w99,g2,c99");
        r.start(0, 1, seedFor(1, 2));
        r.tick(1);
        free(r, 4, 0, 0, 1, 1, 0);
        r.start(0, 1, seedFor(2, 2));
        r.tick(1);
        free(r, 4, 0, 0, 0, 2, 0);
        r.start(0, 1, seedFor(2, 1));
        r.tick(1);
        free(r, 4, 0, 0, 1, 1, 0);
        r.start(0, 1, seedFor(0, 1));
        r.tick(1);
        free(r, 4, 0, 0, 2, 0, 0);
    }

    private static void eachCellDrawsOfEachDrop() {
        // The first drop has no round grains, and dries in the first tick: it draws in that, and no more.
        RingDrop r = with("y:k=2?w;y:0", "k2,w2,l2", "x4,k3,w99,g3,c99");
        r.start(0, 3, seedFor(0, 2, 2, 0, 0, 0, 1, 0));
        r.tick(1);
        free(r, 4, 0, 0, 2, 1);
        same("it is gone", r.about(7), 1);
        r.tick(1);
        free(r, 4, 0, 1, 1, 1);
    }

    // ---- (7) ----

    private static void lying(String drop, int round, int lengthy) {
        RingDrop r = ticked("y:0", drop, 1);
        same("round ones in the first cell of " + drop, r.lies(0, 0), round);
        same("long ones in the first cell of " + drop, r.lies(0, 1), lengthy);
    }

    private static void whatACellBears() {
        lying("k2,w20,c5,l10", 0, 0);
        lying("k2,w20,c5,l11", 0, 1);
        lying("k2,w20,c1,l2", 0, 0);
        lying("k2,w18,c1,l2", 0, 1);
        lying("k2,w18,c2,l2", 0, 0);
        lying("k2,w20,c99,l198", 0, 0);
        lying("k2,w20,c99,l199", 0, 1);
        lying("k2,w20,c3,g4,l4", 1, 0);
        lying("k2,w20,c2,g4,l4", 2, 0);
        lying("k2,w20,c1,g4,l4", 2, 1);
        lying("k2,w18,c1,g4,l4", 2, 2);
    }

    private static void paceOfEachTick() {
        // 3 and 2 lie in each cell, in two ticks: 10 10, of which 6 go, bear 2.
        int[][] heaps = {{5, 0}, {5, 0}, {3, 2}, {0, 5}, {0, 5}};
        for (int pace = 0; pace < 5; pace++) {
            RingDrop r = with("y:t=0?6;y:w", "k2,w20,l10");
            r.pace(pace);
            r.start(0, 1, 0);
            r.tick(1);
            same("three at first", r.lies(0, 1), 3);
            r.tick(1);
            same("heap by pace " + pace, r.heap(0, 1), heaps[pace][0]);
            same("rows by pace " + pace, r.heap(0, 0), heaps[pace][1]);
            same("h by pace " + pace, r.about(4), 2 * heaps[pace][0]);
        }
    }

    private static void highPace() {
        for (int more = 0; more < 2; more++) {
            RingDrop r = with("y:w", "k2,w20,g" + (100 + more) + ",l" + (98 + more));
            r.pace(99);
            r.start(0, 1, seedFor(0, 0));
            r.tick(1);
            same("heap", r.heap(0, 1), more == 0 ? 0 : 101);
            same("rows", r.heap(0, 0), more == 0 ? 99 : 0);
        }
    }

    private static void aDropWithoutWaterIsGone() {
        RingDrop r = with("y:w-1", "k2,w9,l2");
        r.start(0, 1, 0);
        r.tick(9);
        same("one in each keeps it", r.about(7), 1);
        RingDrop s = ticked("y:t=0?w-1;y:w", "k2,w9,l2", 60);
        same("t", s.about(5), 2);
        same("gone", s.about(7), 0);
        same("no body", s.body(0, 0), -1);
        same("water that went off", s.about(6), 9);
        same("both lie", s.about(3), 2);
        same("flow of that tick", s.flow(0), 0);
    }

    // ---- 10 to 15: what is told of cells ----

    private static void noSuchOnes() {
        RingDrop r = ticked("y:0", "k2,w9,g2,l2", 1);
        for (int bad : new int[] {-1, 24, Integer.MIN_VALUE, Integer.MAX_VALUE}) {
            same("water " + bad, r.water(bad), -1);
            same("free " + bad, r.free(bad, 0), -1);
            same("lies " + bad, r.lies(bad, 0), -1);
            same("heap " + bad, r.heap(bad, 0), -1);
            same("flow " + bad, r.flow(bad), -100000);
        }
        for (int bad : new int[] {-1, 2, Integer.MIN_VALUE, Integer.MAX_VALUE}) {
            same("free of " + bad, r.free(0, bad), -1);
            same("lies of " + bad, r.lies(0, bad), -1);
            same("heap of " + bad, r.heap(0, bad), -1);
            same("rush " + bad, r.rush(bad), -1);
            same("middle " + bad, r.middle(bad), -1);
        }
        for (int bad : new int[] {-1, 4, Integer.MIN_VALUE, Integer.MAX_VALUE}) {
            same("body of " + bad, r.body(0, bad), -1);
        }
        for (int bad : new int[] {-1, 1, 12, Integer.MIN_VALUE, Integer.MAX_VALUE}) {
            same("body " + bad, r.body(bad, 0), -1);
        }
        for (int bad : new int[] {-1, 9, Integer.MIN_VALUE, Integer.MAX_VALUE}) {
            same("about " + bad, r.about(bad), -1);
        }
        same("the last cell", r.water(23) + r.free(23, 1) + r.lies(23, 1) + r.heap(23, 1) + r.flow(23), 0);
    }

    private static void flowOfTheLatestTick() {
        RingDrop r = with("y:t=0&i=0?10;y:t=1&k=3?w;y:0", "k3,w100,c99", "x4,k4,w200,c99");
        r.start(0, 3, 0);
        r.tick(1);
        flow(r, 0, -4, 4, 0, 0);
        same("from the last of one to no drop", r.flow(2), 0);
        yes("of the other, too", r.flow(4) < 0);
        r.tick(1);
        flow(r, 0, 0, 0, 0, 0);
        r.tick(1);
        same("none any more", r.flow(4), 0);
        same("speed", r.speed(), 0);
    }

    // ---- 18: speed ----

    private static void speedOfTheHalves() {
        // 20 30 30 20 lose 10 of the last: 18 27 27 18; what flows from one half into the other is in neither.
        RingDrop r = ticked("y:g=0?10;y:0", "x9,k4,w100,g3,c99", 1);
        flow(r, 8, 0, 2, 5, 8, 0);
        same("the last two", r.speed(), 8);
        // And 10 of the first.
        r = ticked("y:g=2?10;y:0", "x9,k4,w100,g5,c99", 1);
        flow(r, 8, 0, -8, -5, -2, 0);
        same("the first two", r.speed(), 8);
        // 29 46 52 45 28 lose 20 of the last: 26 42 46 41 25; the middle cell is as near to both ends.
        r = ticked("y:g=0?20;y:0", "x9,k5,w200,g4,c99", 1);
        flow(r, 8, 0, 3, 7, 13, 17, 0);
        same("out of the middle, to the right", r.speed(), 30);
        r = ticked("y:g=2?20;y:0", "x9,k5,w200,g6,c99", 1);
        flow(r, 8, 0, -17, -13, -7, -3, 0);
        same("out of the middle, to the left", r.speed(), 30);
        same("without a tick", with("y:0", "k2").speed(), 0);
    }

    // ---- 16: about ----

    private static RingDrop lain(String... drops) {
        RingDrop r = with("y:w", drops);
        r.start(0, (1 << drops.length) - 1, 0);
        r.tick(1);
        return r;
    }

    private static void ringInHundredths() {
        same("none lie", ticked("y:0", "k3,w9", 1).about(0), 0);
        same("all", lain("k2,w9,l5").about(0), 100);
        same("2 of 3, cut", lain("k3,w9,l3").about(0), 66);
        same("2 of 6, cut", lain("k6,w9,l6").about(0), 33);
        same("1 of 1", lain("k9,w9,l1").about(0), 100);
        same("two drops apart: 4 of 5", lain("k2,w9,l2", "x3,k3,w9,l3").about(0), 80);
        same("two that touch: 2 of 5", lain("k2,w9,l2", "x2,k3,w9,l3").about(0), 40);
        // The ends of the START, not those of now.
        RingDrop r = ticked("y:0", "k6,w60,g6,e99,j2,c99", 1);
        same("2 of 4", r.about(0), 50);
    }

    private static void ringsAndNeighbours() {
        same("one alone", lain("k2,w9,l1").about(1), 1);
        same("as many beside it", lain("k2,w9,l2").about(1), 0);
        same("at the left end", lain("k24,w9,l1").about(1), 1);
        same("at the right end", lain("x22,k2,w9", "x20,k2,w9,l1").about(1), 1);
        same("at both ends of one drop", ticked("y:0", "x20,k4,w9,l4,e99,c99", 1).about(1), 2);
        same("at both ends", lain("k2,w9,l1", "x22,k2,w9,l3").about(1), 2);
        same("2 2 1", lain("k3,w9,l5").about(1), 0);
        same("2 1 1 0 1", lain("k3,w9,l4", "x4,k2,w9,l1").about(1), 2);
        same("1 0 1 0 1", lain("k2,w9,l1", "x2,k2,w9,l1", "x4,k2,w9,l1").about(1), 0);
        RingDrop r = with("y:0", "x21,k3,w9,l3,e99");
        r.start(0, 1, 0);
        same("none lie", r.about(1), 0);
    }

    private static void evenOfTheStart() {
        same("none at a start", new RingDrop().about(2), 0);
        same("as many in each", lain("k3,w9,l9").about(2), 0);
        same("one more in one", lain("k3,w9,l10").about(2), 1);
        same("of both drops together", lain("k3,w9,l9", "x9,k3,w9,l3").about(2), 2);
        same("what was no drop's does not count", lain("k3,w9,l9", "x9,k3,w9,l9").about(2), 0);
        same("what lets go was a drop's", ticked("y:0", "k4,w9,l8,e99,c99", 1).about(2), 2);
    }

    private static void rushOfTheFirstMost() {
        RingDrop r = with("y:t=1?6;y:t=3?6;y:t=4?w", "k2,w40,l16,c4");
        same("no start", r.rush(0), -1);
        r.start(0, 1, 0);
        r.tick(1);
        same("none came to lie", r.rush(0), -1);
        same("none came to lie", r.rush(1), -1);
        // 20 20 bear 8 8, then 14 14 5 5, then 8 8 3 3.
        r.tick(1);
        same("tick 2", r.rush(0), 2);
        same("six", r.rush(1), 6);
        r.tick(2);
        same("four more, in tick 4", r.came(4), 4);
        same("still tick 2", r.rush(0), 2);
        r.tick(1);
        same("as many in tick 5", r.came(5), 6);
        same("the first such", r.rush(0), 2);
        same("six", r.rush(1), 6);
        same("no more", r.rush(2), -1);
    }

    private static void middleCut() {
        same("none lies", ticked("y:0", "k2,w9", 1).middle(0), -1);
        same("none lies", ticked("y:0", "k2,w9", 1).middle(1), -1);
        same("no start", new RingDrop().middle(0), -1);
        RingDrop r = lain("k2,w9,l2");
        same("0 and 1", r.middle(0), 5);
        same("from 0", r.middle(1), 1);
        r = lain("k3,w9,l8");
        // 3 3 2: 70 by 8.
        same("cut", r.middle(0), 8);
        same("from 0", r.middle(1), 7);
        r = lain("x22,k2,w9,l3");
        // 22 22 23: 670 by 3.
        same("cut", r.middle(0), 223);
        same("from 22", r.middle(1), 1);
        r = lain("k2,w9,l1", "x20,k2,w9,l1");
        same("10 * 20 by 2", r.middle(0), 100);
        same("from 10", r.middle(1), 20);
        same("all in cell 0", lain("k2,w9,l1").middle(0), 0);
        same("all in cell 0", lain("k2,w9,l1").middle(1), 0);
    }

    // ---- 32: came ----

    private static void cameOfTicks() {
        RingDrop r = with("y:t<119?0;y:t=119?6;y:6", "k2,w40,l16,c4");
        same("no start", r.came(1), -1);
        r.start(0, 1, 0);
        same("no tick", r.came(1), -1);
        r.tick(60);
        r.tick(59);
        same("119", r.came(119), 0);
        same("no 120", r.came(120), -1);
        r.tick(1);
        same("120", r.came(120), 6);
        r.tick(1);
        same("121 is not kept", r.came(121), -1);
        same("120 is", r.came(120), 6);
        for (int n : new int[] {0, -1, 122, Integer.MIN_VALUE, Integer.MAX_VALUE}) {
            same("came " + n, r.came(n), -1);
        }
        r.start(0, 1, 0);
        same("of the start before", r.came(1), -1);
        r.tick(1);
        same("of this one", r.came(1), 0);
        same("of the start before", r.came(2), -1);
    }

    // ---- 43, 44: image and back ----

    private static void imagesOfCame() {
        RingDrop r = with("y:10", "k2,w60,l8", "k2,w20,l3");
        same("no image", r.back(), -1);
        r.start(0, 1, 0);
        r.tick(60);
        same("three ticks", r.image(), 3);
        int[] came = {r.came(1), r.came(2), r.came(3)};
        r.start(0, 2, 0);
        r.tick(60);
        same("of the other", r.came(1), 3);
        same("back", r.back(), 3);
        for (int n = 0; n < 3; n++) {
            same("came " + (n + 1), r.came(n + 1), came[n]);
        }
        same("no fourth", r.came(4), -1);
        same("rush", r.rush(1), 8);
        same("no drop is there", r.tick(1), 0);
    }

    private static void imageOfAnEmptyStrip() {
        RingDrop r = with("y:10", "k2,w60,l8");
        same("no ticks", r.image(), 0);
        r.start(0, 1, 0);
        r.tick(60);
        same("back", r.back(), 0);
        same("none lie", r.about(3), 0);
        same("no start", r.tick(1), -1);
        same("rush", r.rush(0), -1);
        same("came", r.came(1), -1);
        same("middle", r.middle(0), -1);
        same("a start behind it", r.start(0, 1, 0), 1);
        same("ticks", r.tick(60), 3);
        same("and back again", r.back(), 0);
    }

    private static void theSeedIsTheImages() {
        RingDrop r = with("y:0", "x5,k3,w99,g3,c99");
        r.start(0, 1, seedFor(0, 0, 0, 2, 0, 0));
        r.tick(1);
        r.image();
        r.tick(1);
        free(r, 5, 0, 0, 2, 1);
        r.start(0, 1, seedFor(0, 0, 0, 0, 0, 1));
        r.tick(2);
        r.back();
        r.tick(1);
        free(r, 5, 0, 0, 2, 1);
    }

    public static void main(String[] args) {
        noSuchLawOrDrops();
        twoOnOneCell();
        touchingOrNot();
        twelveThatTouch();
        allElseAsOfTheLowest();
        layoutGoesRound();
        allIsEmptied();
        shapes();
        slopes();
        howManyTicks();
        airKeepsWater();
        lettersOfALaw();
        whenItLetsGo();
        letsGoByTheWaterLeft();
        endsLieDown();
        waterGoesToTheNewEnd();
        noneFromADryCell();
        noMoreThanAll();
        pullOfAHundredHoldsAll();
        longOnesHold();
        bothSortsGo();
        warmthOfFifty();
        warmthAheadOfWandering();
        drawsFromAnySeed();
        noneWanderBeyondTheDrop();
        eachCellDrawsOfEachDrop();
        whatACellBears();
        paceOfEachTick();
        highPace();
        aDropWithoutWaterIsGone();
        noSuchOnes();
        flowOfTheLatestTick();
        speedOfTheHalves();
        ringInHundredths();
        ringsAndNeighbours();
        evenOfTheStart();
        rushOfTheFirstMost();
        middleCut();
        cameOfTicks();
        imagesOfCame();
        imageOfAnEmptyStrip();
        theSeedIsTheImages();
        finish("StripEdgeTest");
    }
}
