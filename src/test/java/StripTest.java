/** Promises 8 to 19, 32, 33, 43 and 44: drops that dry on the strip, what is told of it, an image of it. */
public final class StripTest extends Check {
    private static void starts() {
        RingDrop r = with("y:0", "x3,k4,w100,g6,l3", "x7,k2,w3", "x6,k2", "x10,k3,w60,s2", "x14,k3,w5");
        Check.same("no such law", r.start(1, 1, 0), -1);
        Check.same("no such law", r.start(-1, 1, 0), -1);
        Check.same("no drops", r.start(0, 0, 0), -1);
        Check.same("no such drop", r.start(0, 32, 0), -1);
        Check.same("no such drop", r.start(0, 33, 0), -1);
        Check.same("no such drop", r.start(0, -1, 0), -1);
        Check.same("no such drop", r.start(0, Integer.MIN_VALUE, 0), -1);
        Check.same("no start", r.tick(1), -1);
        Check.same("start", r.start(0, 1, 0), 1);
        water(r, 2, 0, 20, 30, 30, 20, 0);
        free(r, 2, 0, 0, 2, 2, 1, 1, 0);
        free(r, 2, 1, 0, 1, 1, 1, 0, 0);
        Check.same("two on one cell", r.start(0, 5, 0), -1);
        water(r, 2, 0, 20, 30, 30, 20, 0);
        Check.same("drops apart", r.start(0, 1 | 8 | 16, 0), 3);
        water(r, 10, 15, 24, 21, 0, 2, 2, 1, 0);
        Check.same("touching ones are one", r.start(0, 1 | 2 | 8, 0), 2);
        Check.same("its first", r.body(0, 0), 3);
        Check.same("its last", r.body(0, 1), 8);
        Check.same("its water", r.body(0, 2), 103);
        Check.same("two chains", r.start(0, 2, 0), 1);
        water(r, 3, 0, 0, 0, 0, 2, 1, 0);
    }

    private static void merges() {
        RingDrop r = with("y:0", "x2,k2,w10,g1,s9,c99", "x0,k2,w30,g2,l1,c1", "x4,k2,w8,j3");
        Check.same("two of the three", r.start(0, 3, seedFor(0, 0, 0, 0)), 1);
        water(r, 0, 4, 10, 14, 12, 0);
        free(r, 0, 0, 1, 1, 1, 0);
        free(r, 0, 1, 1, 0, 0, 0);
        r.tick(1);
        Check.same("the crowd of the lowest", r.about(8), 4);
        Check.same("three in a row", r.start(0, 7, 0), 1);
        Check.same("last", r.body(0, 1), 5);
        Check.same("water", r.body(0, 2), 48);
        Check.same("a gap between", r.start(0, 6, 0), 2);
        Check.same("sorted from the left", r.body(0, 0), 0);
        Check.same("sorted from the left", r.body(1, 0), 4);
        RingDrop t = with("y:0", "x2,k2,w10,c7,s9", "x4,k2,w10", "x0,k2,w10,s1");
        t.start(0, 7, 0);
        // As the middle one, the lowest: 6 10 12 12 10 6 times 10 19 28 37 46 55 by 1,820, and 30 of water.
        water(t, 0, 1 + 0, 3 + 1, 5 + 1, 7, 7, 5);
        RingDrop s = with("y:0", "x2,k2,w10,s0", "x0,k2,w30,s9");
        s.start(0, 3, 0);
        water(s, 0, 8, 12, 12, 8);
    }

    private static void flows() {
        long calm = seedFor(0, 3, 0);
        RingDrop r = with("y:i=0?10;y:0", "x1,k3,w100,g300,c99", "x1,k3,w100,g300,c99,p50", "x1,k3,w100,g300,l36,c99",
            "x1,k3,w100,g300,l33,c99", "x1,k3,w100,g300,c99,m50", "x1,k3,w100,g300,c99,m49", "x1,k3,w100,g300,c99,p100");
        r.start(0, 1, calm);
        water(r, 0, 0, 30, 40, 30, 0);
        r.tick(1);
        water(r, 0, 0, 24, 32, 24, 0);
        int[] flow = {0, -4, 4, 0, 0};
        for (int i = 0; i < 5; i++) {
            Check.same("flow " + i, r.flow(i), flow[i]);
        }
        Check.same("flow of the last cell", r.flow(23), 0);
        Check.same("no such cell", r.flow(24), -100000);
        Check.same("no such cell", r.flow(-1), -100000);
        Check.same("speed", r.speed(), 8);
        free(r, 0, 0, 0, 110, 81, 109, 0);
        Check.same("gone", r.about(6), 20);
        int[][] due = {{105, 91, 104}, {100, 100, 100}, {110, 90, 100}, {96, 102, 102}, {110, 81, 109}, {100, 100, 100}};
        for (int d = 1; d <= 6; d++) {
            r.start(0, 1 << d, calm);
            r.tick(1);
            free(r, 1, 0, due[d - 1]);
        }
        r.start(0, 4, calm);
        r.tick(1);
        free(r, 1, 1, 12, 12, 12);
        r.start(0, 8, calm);
        r.tick(1);
        // Ten of the hundred that are left are long then: they hold one another.
        free(r, 1, 1, 12, 10, 11);
        // 0 40 0 become 12 16 12: of ten in the middle 10 * 12 / 40 go to the left, and then one long one of eight holds.
        RingDrop few = with("y:i=0?w;y:0", "x1,k3,w100,g24,l3,c99", "x1,k3,w100,g27,l3,c99", "x1,k3,w100,g30,l3,c99");
        int[][] rest = {{8, 8, 8}, {9, 9, 9}, {13, 7, 10}};
        for (int d = 0; d < 3; d++) {
            few.start(0, 1 << d, calm);
            few.tick(1);
            free(few, 1, 0, rest[d]);
            free(few, 1, 1, 1, 1, 1);
        }
        Check.same("start empties flow", r.start(0, 1, calm), 1);
        Check.same("flow", r.flow(1), 0);
        Check.same("speed", r.speed(), 0);
    }

    private static void flowsInward() {
        RingDrop r = with("y:i=1?10;y:0", "k4,w100,g8,c99", "x6,k4,w100,g8,c99");
        r.start(0, 1, seedFor(0, 0, 0, 0));
        water(r, 0, 20, 30, 30, 20);
        r.tick(1);
        water(r, 0, 16, 24, 24, 16);
        Check.same("flow", r.flow(0), 4);
        Check.same("flow", r.flow(1), 0);
        Check.same("flow", r.flow(2), -4);
        Check.same("none outward", r.speed(), 0);
        // Of 100 in each 100 * 4 / 20 go inward from either end.
        int full = Check.drop(r, "k4,w100,g400,c99");
        r.start(0, 1 << full, seedFor(0, 0, 0, 0));
        r.tick(1);
        free(r, 0, 0, 80, 120, 120, 80);
        // 5 30 30 5 become 14 21 21 14 in each.
        RingDrop s = with("y:i=0?15", "k4,w100", "x6,k4,w100");
        s.start(0, 3, 0);
        s.tick(1);
        Check.same("of both drops", s.speed(), 36);
    }

    private static void speeds() {
        // 20 30 30 20 lose 10 0 0 0: 10 30 30 20 become 18 27 27 18: flows -8, -5, -2; the middle one is neither half's.
        RingDrop r = with("y:w=20&t=0&i=0&g=1?10;y:0", "k4,w100,g1,c99", "x10,k4,w100,g1,c99");
        r.start(0, 1, seedFor(0, 0, 0, 0));
        r.tick(1);
        water(r, 0, 18, 27, 27, 18);
        Check.same("flow", r.flow(0), -8);
        Check.same("flow", r.flow(1), -5);
        Check.same("flow", r.flow(2), -2);
        Check.same("speed", r.speed(), 8);
        r.start(0, 3, seedFor(0, 0, 0, 0, 0, 0, 0, 0));
        r.tick(1);
        Check.same("speed of two drops", r.speed(), 16);
        Check.same("ticks without drops", r.tick(1), 1);
        Check.same("speed of the latest tick", r.speed(), 0);
    }

    private static void farSpeeds() {
        // The first cell alone loses all: water flows to the left, outward in the left half.
        RingDrop r = with("y:i=0&g=2?w", "x17,k5,w110,g6,c99");
        r.start(0, 1, seedFor(0, 0, 0, 0, 0));
        water(r, 17, 16, 26, 28, 25, 15);
        r.tick(1);
        water(r, 17, 14, 22, 24, 21, 13);
        int[] flow = {-14, -10, -6, -2};
        for (int i = 0; i < 4; i++) {
            Check.same("flow " + i, r.flow(17 + i), flow[i]);
        }
        Check.same("speed", r.speed(), 24);
    }

    private static void flowOfOne() {
        // 3 4 3 less 1 at the first: 2 4 3 become 3 4 2.
        RingDrop r = with("y:t=0&i=0&g=2?1", "k3,w10,g4,c99");
        r.start(0, 1, seedFor(0, 3, 3));
        water(r, 0, 3, 4, 3);
        free(r, 0, 0, 2, 1, 1);
        r.tick(1);
        water(r, 0, 3, 4, 2);
        Check.same("flow", r.flow(0), -1);
        Check.same("flow", r.flow(1), -1);
        Check.same("speed", r.speed(), 1);
        RingDrop s = with("y:t=0&i=0&g=4?1", "k3,w10,g10,c99");
        s.start(0, 1, seedFor(0, 3, 3));
        s.tick(1);
        // Of 3 in the middle 3 * 1 / 4 go, of 3 in the last a third.
        free(s, 0, 0, 4, 4, 2);
        // 0 1 become 1 0: all of 2 go from a cell of 1.
        RingDrop t = with("y:w=2?2;y:0", "k2,w3,g4,c99");
        t.start(0, 1, seedFor(0, 0));
        water(t, 0, 2, 1);
        t.tick(1);
        Check.same("flow", t.flow(0), -1);
        water(t, 0, 1, 0);
        free(t, 0, 0, 4, 0);
        lies(t, 0, 0, 0, 0);
        RingDrop u = with("y:w=3&i=0?1;y:0", "k3,w8,g9,c99");
        u.start(0, 1, seedFor(0, 0, 0));
        water(u, 0, 3, 3, 2);
        u.tick(1);
        // 2 3 2 become 3 2 2: of 3 in the middle 3 * 1 / 3 go to the left.
        water(u, 0, 3, 2, 2);
        free(u, 0, 0, 4, 2, 3);
        RingDrop v = with("y:i=0&g=1?1;y:0", "k3,w12,g5,c99");
        v.start(0, 1, seedFor(0, 0, 0));
        water(v, 0, 4, 5, 3);
        v.tick(1);
        // 4 5 2 become 4 4 3: of 2 in the middle none go for one of five.
        water(v, 0, 4, 4, 3);
        Check.same("flow", v.flow(1), 1);
        Check.same("speed", v.speed(), 1);
        free(v, 0, 0, 2, 2, 1);
        RingDrop w = with("y:i=0&g=5?1;y:0", "k3,w12,g17,c99");
        w.start(0, 1, seedFor(0, 0, 0));
        w.tick(1);
        // 6 6 5: of 6 in the middle 6 * 1 / 5 go.
        free(w, 0, 0, 6, 5, 6);
    }

    private static void lastWater() {
        RingDrop r = with("y:i=0&w=1&t>0?1;y:0", "k2,w1,l1,c99");
        r.start(0, 1, 0);
        r.tick(1);
        Check.same("there is one left", r.about(7), 1);
        Check.same("it ticks", r.tick(5), 1);
        Check.same("gone", r.about(7), 0);
    }

    private static void afterOthers() {
        RingDrop r = with("y:i=0?10;y:t>0?9", "k3,w30,g9", "x8,k3,w500,g9,c99", "x16,k3,w500,g9,c99,e90");
        r.start(0, 7, 0);
        r.tick(1);
        Check.yes("it flows", r.flow(0) != 0);
        Check.same("three are there", r.about(7), 3);
        r.tick(3);
        Check.same("the first is gone", r.about(7), 2);
        Check.same("no flow there", r.flow(0), 0);
        Check.same("the second", r.body(0, 0), 8);
        Check.same("start anew", r.start(0, 7, 0), 3);
        for (int i = 0; i < 3; i++) {
            Check.same("body " + i, r.body(i, 0), 8 * i);
            Check.same("body " + i, r.body(i, 1), 8 * i + 2);
            Check.same("body " + i, r.body(i, 3), 0);
        }
        r.start(0, 1, 0);
        for (int c = 3; c < 24; c++) {
            Check.same("none are free", r.free(c, 0), 0);
        }
        r.start(0, 7, 0);
        r.tick(60);
        r.start(0, 1, 0);
        for (int c = 3; c < 24; c++) {
            Check.same("all is emptied", r.water(c) + r.free(c, 0) + r.free(c, 1) + r.lies(c, 0) + r.lies(c, 1) + r.heap(c, 1), 0);
            Check.same("all is emptied", r.flow(c), 0);
        }
        RingDrop s = with("y:w", "x4,k2,w9", "x3,k4,w9,l4", "x3,k5,w9,l5");
        s.start(0, 1, 0);
        s.start(0, 2, 0);
        s.tick(1);
        Check.same("the ends of now", s.about(0), 50);
        Check.same("the cells of now", s.about(2), 0);
    }

    private static void unlikeGrains() {
        // 3 round and 1 long in the first, 2 and 1, .., 2 and 0 in the last.
        RingDrop r = with("y:0", "k6,w60,g13,l4,e99,c99");
        r.start(0, 1, seedFor(0, 0, 0, 0));
        r.tick(1);
        lies(r, 0, 0, 3, 0, 0, 0, 0, 2);
        lies(r, 0, 1, 1, 0, 0, 0, 0, 0);
        Check.same("in the heap", r.heap(0, 1), 4);
        Check.same("in rows", r.heap(5, 0), 2);
        RingDrop one = with("y:w", "x5,k2,w9,l1");
        one.start(0, 1, 0);
        one.tick(1);
        Check.same("middle of one", one.middle(0), 50);
        Check.same("spread of one", one.middle(1), 0);
    }

    private static void wandering() {
        RingDrop r = with("y:0", "x5,k3,w99,g3,l3,c99,p100");
        int[][] draws = {{0, 3, 0}, {1, 0, 0}, {0, 1, 0}, {0, 0, 1}, {2, 0, 0}, {0, 2, 0}, {0, 0, 2}, {2, 2, 0}, {2, 1, 1}};
        int[][] due = {{1, 1, 1}, {1, 1, 1}, {2, 0, 1}, {1, 2, 0}, {0, 2, 1}, {1, 0, 2}, {1, 1, 1}, {0, 1, 2}, {1, 2, 0}};
        for (int n = 0; n < draws.length; n++) {
            r.start(0, 1, seedFor(draws[n]));
            r.tick(1);
            free(r, 4, 0, 0);
            free(r, 5, 0, due[n]);
            free(r, 5, 1, 1, 1, 1);
        }
        r.start(0, 1, seedFor(2, 0, 0, 2, 2, 0));
        r.tick(2);
        free(r, 5, 0, 0, 1, 2);
    }

    private static void lyingDown() {
        long calm = seedFor(0, 0, 3, 3);
        RingDrop r = with("y:0", "k2,w20,g3,l4,c5", "k2,w20,g3,l4,c2", "k2,w20,g3,l4,c1");
        int[][] round = {{0, 0}, {2, 1}, {2, 1}};
        int[][] lengthy = {{0, 0}, {0, 0}, {1, 1}};
        for (int d = 0; d < 3; d++) {
            r.start(0, 1 << d, calm);
            r.tick(1);
            lies(r, 0, 0, round[d]);
            lies(r, 0, 1, lengthy[d]);
            free(r, 0, 0, 2 - round[d][0], 1 - round[d][1]);
            free(r, 0, 1, 2 - lengthy[d][0], 2 - lengthy[d][1]);
        }
        Check.same("both sorts together", r.heap(0, 0), 3);
        r.pace(2);
        r.start(0, 4, calm);
        r.tick(1);
        Check.same("both sorts together", r.heap(0, 0), 0);
        Check.same("both sorts together", r.heap(0, 1), 3);
        Check.same("both sorts together", r.heap(1, 0), 2);
        Check.same("h", r.about(4), 3);
        Check.same("n", r.about(3), 5);
        Check.same("free", r.about(8), 2);
        for (int bad : new int[] {-1, 24}) {
            Check.same("lies", r.lies(bad, 0), -1);
            Check.same("free", r.free(bad, 0), -1);
            Check.same("heap", r.heap(bad, 0), -1);
            Check.same("water", r.water(bad), -1);
        }
        for (int bad : new int[] {-1, 2}) {
            Check.same("lies", r.lies(0, bad), -1);
            Check.same("free", r.free(0, bad), -1);
            Check.same("heap", r.heap(0, bad), -1);
        }
    }

    private static void lettingGo() {
        RingDrop r = with("y:0", "x2,k6,w60,g6,l6,e20,j2,c99", "k5,w60,e99,j2", "k6,w60,e10,j2", "k6,w59,e10,j2", "k8,w60,e99,j1");
        r.start(0, 1, seedFor(0, 0));
        water(r, 2, 7, 11, 13, 13, 10, 6);
        r.pace(1);
        r.tick(1);
        Check.same("first", r.body(0, 0), 4);
        Check.same("last", r.body(0, 1), 5);
        Check.same("water", r.body(0, 2), 60);
        Check.same("lets", r.body(0, 3), 1);
        water(r, 2, 0, 0, 30, 30, 0, 0);
        Check.same("flow", r.flow(4), 1);
        Check.same("flow over the old end", r.flow(3), 0);
        lies(r, 2, 0, 1, 1, 0, 0, 1, 1);
        lies(r, 2, 1, 1, 1, 0, 0, 1, 1);
        Check.same("in the heap", r.heap(2, 1), 2);
        Check.same("e", r.about(0), 50);
        Check.same("r", r.about(1), 0);
        Check.same("v", r.about(2), 2);
        Check.same("came", r.came(1), 8);
        int[] lets = {0, 0, 1, 1};
        for (int d = 1; d <= 4; d++) {
            r.start(0, 1 << d, 0);
            r.tick(1);
            Check.same("lets of " + d, r.body(0, 3), lets[d - 1]);
        }
        r.tick(60);
        Check.same("lets of an even width", r.body(0, 3), 3);
        Check.same("width of two", r.body(0, 1) - r.body(0, 0), 1);
        RingDrop s = with("y:i=0?10;y:0", "k6,w200,e30,j2,c99");
        s.start(0, 1, 0);
        s.tick(1);
        Check.same("180 are not less", s.body(0, 3), 0);
        Check.yes("it flows", s.flow(0) != 0 && s.flow(1) != 0 && s.flow(3) != 0 && s.flow(4) != 0);
        s.tick(1);
        Check.same("160 are", s.body(0, 3), 1);
        for (int c : new int[] {0, 1, 3, 4}) {
            Check.same("no flow any more from " + c, s.flow(c), 0);
        }
        Check.same("no such body", r.body(1, 0), -1);
        Check.same("no such body", r.body(-1, 0), -1);
        Check.same("no such what", r.body(0, 4), -1);
        Check.same("no such what", r.body(0, -1), -1);
    }

    private static void ticks() {
        RingDrop r = with("y:10", "k2,w100,l10", "x10,k2,w40,l4");
        r.start(0, 3, 9);
        Check.same("tick(0)", r.tick(0), -1);
        Check.same("tick(61)", r.tick(61), -1);
        Check.same("tick(-1)", r.tick(-1), -1);
        Check.same("ticks", r.about(5), 0);
        Check.same("tick", r.tick(2), 2);
        Check.same("the dry one is gone", r.about(7), 1);
        Check.same("the other", r.body(0, 0), 0);
        Check.same("came", r.came(2), 4);
        Check.same("rush", r.rush(0), 2);
        Check.same("tick", r.tick(60), 3);
        Check.same("drops", r.about(7), 0);
        Check.same("gone", r.about(6), 140);
        Check.same("tick without a drop", r.tick(60), 0);
        Check.same("t", r.about(5), 5);
        Check.same("rush", r.rush(0), 5);
        Check.same("rush", r.rush(1), 10);
        Check.same("no such rush", r.rush(2), -1);
        Check.same("no such rush", r.rush(-1), -1);
        int[] came = {-1, 0, 4, 0, 0, 10, -1};
        for (int t = 0; t < 7; t++) {
            Check.same("came " + t, r.came(t), came[t]);
        }
        r.start(0, 2, 9);
        Check.same("came of another start", r.came(2), -1);
        Check.same("rush of another start", r.rush(0), -1);
        r.tick(2);
        Check.same("came", r.came(1), 0);
        Check.same("no sixtieth", r.tick(60), 0);
    }

    private static void rushes() {
        RingDrop r = with("y:10", "k2,w40,l4", "x4,k2,w80,l4", "x8,k2,w120,l3");
        r.start(0, 7, 0);
        r.tick(60);
        Check.same("the first of as many", r.rush(0), 2);
        Check.same("how many", r.rush(1), 4);
        Check.same("came", r.came(4), 4);
        Check.same("came", r.came(6), 3);
    }

    private static void lateCame() {
        RingDrop r = with("y:t=119?9;y:t=120?w", "k2,w20,l2,c1");
        r.start(0, 1, 0);
        r.tick(60);
        r.tick(60);
        r.tick(60);
        Check.same("ticks", r.about(5), 121);
        Check.same("came 120", r.came(120), 2);
        Check.same("came 121", r.came(121), -1);
        Check.same("rush", r.rush(0), 120);
        RingDrop s = with("y:t=120?w", "k2,w20,l6,c99");
        s.start(0, 1, 0);
        s.tick(60);
        s.tick(60);
        s.tick(60);
        Check.same("not kept", s.came(121), -1);
        Check.same("rush of a late tick", s.rush(0), 121);
        Check.same("its many", s.rush(1), 6);
    }

    private static void abouts() {
        RingDrop r = with("y:w", "k3,w9,l7", "x5,k2,w9,l1", "x9,k3,w9,l1");
        Check.want(r, "e>59&r=3&v=3&n=9&h=0&t=1");
        Check.want(r, "e>60|r>3|v>3|n>9|h>0|t>1");
        Check.want(r, "n+r-v*2<6");
        Check.same("met by an empty strip", r.met(0), 0);
        Check.same("met by an empty strip", r.met(2), 1);
        r.start(0, 7, 4);
        Check.same("t", r.about(5), 0);
        Check.same("drops", r.about(7), 3);
        Check.same("free", r.about(8), 9);
        r.tick(1);
        lies(r, 0, 1, 3, 2, 2, 0, 0, 1, 0, 0, 0, 1, 0, 0);
        Check.same("e: 7 of 9", r.about(0), 77);
        Check.same("r", r.about(1), 3);
        Check.same("v", r.about(2), 3);
        Check.same("n", r.about(3), 9);
        Check.same("h", r.about(4), 0);
        Check.same("t", r.about(5), 1);
        Check.same("gone", r.about(6), 27);
        Check.same("drops", r.about(7), 0);
        Check.same("free", r.about(8), 0);
        Check.same("no such what", r.about(9), -1);
        Check.same("no such what", r.about(-1), -1);
        Check.same("met", r.met(0), 1);
        Check.same("not met", r.met(1), 1);
        Check.same("not met", r.met(2), 0);
        Check.same("no such want", r.met(3), -1);
        Check.same("no such want", r.met(-1), -1);
        Check.same("middle: 10 * (2 + 4 + 5 + 9) / 9", r.middle(0), 22);
        Check.same("spread from 2", r.middle(1), 6 + 2 + 0 + 3 + 7);
        Check.same("no such middle", r.middle(2), -1);
        Check.same("no such middle", r.middle(-1), -1);
    }

    private static void atTheEdge() {
        RingDrop r = with("y:w", "x22,k2,w9,l3", "x0,k2,w9,l2");
        r.start(0, 1, 0);
        r.tick(1);
        Check.same("nothing beyond the end: the left one has more", r.about(1), 1);
        Check.same("e", r.about(0), 100);
        Check.same("middle", r.middle(0), 223);
        Check.same("spread", r.middle(1), 1);
        r.start(0, 2, 0);
        r.tick(1);
        Check.same("as many as the neighbour", r.about(1), 0);
        RingDrop s = with("y:w", "x20,k4,w9,l1", "k4,w9,l1");
        s.start(0, 3, 0);
        s.tick(1);
        Check.same("cell 0 alone", s.about(1), 2);
    }

    private static RingDrop forImages() {
        RingDrop r = with("y:10", "k2,w100,l10", "x10,k5,w400,g40,l4,e20,c6", "x20,k2,w9,l3");
        r.start(0, 3, 9);
        r.tick(6);
        return r;
    }

    private static void images() {
        RingDrop r = with("y:10", "k2,w100,l10", "x10,k5,w400,g40,l4,e20,c6");
        Check.same("no image", r.back(), -1);
        Check.same("an image of nothing", r.image(), 0);
        r.start(0, 3, 9);
        r.tick(4);
        Check.same("back to nothing", r.back(), 0);
        Check.same("no start there", r.tick(1), -1);
        Check.same("no drops there", r.about(7), 0);
        r.start(0, 3, 9);
        r.tick(6);
        Check.same("the image stays over a start", r.back(), 0);
        r.start(0, 3, 9);
        r.tick(7);
        Check.same("an image instead", r.image(), 7);
        r.tick(1);
        Check.same("back to that one", r.back(), 7);
        r.start(0, 1, 9);
        Check.same("back once more", r.back(), 7);
        Check.same("drops as then", r.about(7), 1);
    }

    private static void backToAllOfIt() {
        RingDrop r = forImages();
        Check.same("image", r.image(), 6);
        String then = all(r);
        r.tick(2);
        r.pace(1);
        r.start(0, 4, 3);
        r.tick(1);
        Check.same("back", r.back(), 6);
        Check.yes("all is so again", all(r).equals(then));
        Check.same("the pace is not the strip's", r.count(5), 1);
    }

    private static void onFromAnImage() {
        RingDrop r = forImages();
        r.image();
        r.start(0, 4, 3);
        r.tick(1);
        r.back();
        Check.same("it goes on", r.tick(2), 2);
        RingDrop other = forImages();
        other.tick(2);
        Check.yes("all is as it would have been", all(r).equals(all(other)));
        Check.same("back", r.back(), 6);
        Check.yes("all is so again", all(r).equals(all(forImages())));
    }

    private static String all(RingDrop r) {
        StringBuilder s = new StringBuilder();
        for (int c = 0; c < 24; c++) {
            s.append(r.water(c)).append(' ').append(r.flow(c)).append(' ');
            for (int sort = 0; sort < 2; sort++) {
                s.append(r.free(c, sort)).append(' ').append(r.lies(c, sort)).append(' ').append(r.heap(c, sort)).append(' ');
            }
        }
        for (int what = 0; what < 9; what++) {
            s.append(r.about(what)).append(' ').append(r.came(what)).append(' ').append(r.body(what / 4, what % 4)).append(' ');
        }
        return s.append(r.rush(0)).append(' ').append(r.rush(1)).append(' ').append(r.speed()).toString();
    }

    public static void main(String[] args) {
        starts();
        merges();
        flows();
        flowsInward();
        speeds();
        farSpeeds();
        flowOfOne();
        lastWater();
        afterOthers();
        unlikeGrains();
        wandering();
        lyingDown();
        lettingGo();
        ticks();
        rushes();
        lateCame();
        abouts();
        atTheEdge();
        images();
        backToAllOfIt();
        onFromAnImage();
        Check.finish("StripTest");
    }
}
