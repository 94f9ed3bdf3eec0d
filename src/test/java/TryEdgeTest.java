/** The edges that the document names of what is tried apart from the strip (promises 20, 21, 28 to 31, 34 to 37). */
public final class TryEdgeTest extends Check {
    private static final int[] NO_TICKS = {0, 61, -1, Integer.MIN_VALUE, Integer.MAX_VALUE};
    private static final int[] FAR = {-1, Integer.MIN_VALUE, Integer.MAX_VALUE};
    private static final int G = 3;
    private static final int L = 4;
    private static final int A = 6;
    private static final int P = 7;
    private static final int E = 9;

    // ---- 20: tried ----

    private static void triedWithoutAStart() {
        RingDrop r = with("y:10", "k2,w100,l10", "x2,k2,w20,l2");
        same("till it is dry, not sixty", r.tried(0, 1, 0, 60, 5), 5);
        same("one tick", r.tried(0, 1, 0, 1, 5), 1);
        same("as many as it takes", r.tried(0, 1, 0, 5, 7), 0);
        same("one fewer", r.tried(0, 1, 0, 4, 7), 1);
        same("two that touch are one", r.tried(0, 3, 0, 1, 7), 1);
        same("no strip", r.tick(1), -1);
        for (int n : NO_TICKS) {
            same("ticks " + n, r.tried(0, 1, 0, n, 5), -1);
        }
        for (int what : new int[] {-1, 33, Integer.MIN_VALUE, Integer.MAX_VALUE}) {
            same("what " + what, r.tried(0, 1, 0, 60, what), -1);
        }
        for (int bits : new int[] {0, 4, 5, -1, Integer.MIN_VALUE}) {
            same("bits " + bits, r.tried(0, bits, 0, 60, 5), -1);
        }
        same("law 1", r.tried(1, 1, 0, 60, 5), -1);
    }

    private static void triedSixtyTicks() {
        RingDrop r = with("y:t=59?w", "x22,k2,w9,l3");
        same("59", r.tried(0, 1, 0, 59, 3), 0);
        same("60", r.tried(0, 1, 0, 60, 3), 3);
        same("cell 22", r.tried(0, 1, 0, 60, 31), 2);
        same("cell 23", r.tried(0, 1, 0, 60, 32), 1);
        same("cell 0", r.tried(0, 1, 0, 60, 9), 0);
        same("FREE ones", r.tried(0, 1, 0, 59, 8), 3);
    }

    private static void triedLeavesTheStrip() {
        RingDrop r = with("y:10", "k2,w100,l10", "x9,k3,w90,g9,l9");
        r.start(0, 2, 7);
        r.tick(2);
        r.image();
        RingDrop other = with("y:10", "k2,w100,l10", "x9,k3,w90,g9,l9");
        other.start(0, 2, 7);
        other.tick(2);
        r.tried(0, 3, 1, 60, 3);
        for (int what = 0; what < 9; what++) {
            same("about " + what, r.about(what), other.about(what));
        }
        same("rush", r.rush(0), other.rush(0));
        same("came", r.came(2), other.came(2));
        same("speed", r.speed(), other.speed());
        flow(r, 9, other.flow(9), other.flow(10), 0);
        r.tick(60);
        other.tick(60);
        for (int c = 9; c < 12; c++) {
            same("the draws are the strip's", r.lies(c, 0), other.lies(c, 0));
        }
        same("the image is the strip's", r.back(), 2);
        same("its drops", r.about(7), 1);
    }

    private static void thePaceOfNow() {
        RingDrop r = with("y:w", "k2,w9,l7");
        want(r, "h>0");
        int[][] due = {{0, 7, 1, 1, 20}, {2, 7, 5, 5, 20}, {3, 4, 7, 7, 20}, {4, 0, 9, 9, 0}, {29, 0, 59, 59, 0}, {30, 0, -1, -1, 0}};
        for (int[] d : due) {
            r.pace(d[0]);
            same("h by pace " + d[0], r.tried(0, 1, 0, 1, 4), d[1]);
            same("least by pace " + d[0], r.least(0, 0, L, 0, 0, 1), d[2]);
            same("line by pace " + d[0], r.line(0, 0, P, L, 5, 0, 0, 1), d[3]);
            same("edge by pace " + d[0], r.line(0, 0, P, L, -1, 0, 0, 1), d[3] < 0 ? 0 : 127);
            same("luck by pace " + d[0], r.luck(0, 0, 0, 0, 20, 1), d[4]);
        }
    }

    // ---- 21: least ----

    private static void leastFromNoneToSixty() {
        RingDrop r = with("y:w", "k2,w9,l7");
        want(r, "n<1|n=61");
        want(r, "n=60");
        want(r, "n>60");
        want(r, "n>58");
        same("0", r.least(0, 0, L, 0, 0, 1), 0);
        same("60", r.least(0, 0, L, 1, 0, 1), 60);
        same("61 is none", r.least(0, 0, L, 2, 0, 1), -1);
        same("59", r.least(0, 0, L, 3, 0, 1), 59);
        same("g besides the seven", r.least(0, 0, G, 1, 0, 1), 53);
        same("g besides the seven", r.least(0, 0, G, 2, 0, 1), 54);
        same("g cannot be fewer", r.least(0, 0, G, 0, 0, 1), 54);
        same("the drop is as it was", r.drop(0, L), 7);
        same("and without g", r.drop(0, G), 0);
        for (int letter : new int[] {0, 1, 2, 8, 10, 11, 12, -1, Integer.MIN_VALUE, Integer.MAX_VALUE}) {
            same("letter " + letter, r.least(0, 0, letter, 0, 0, 1), -1);
        }
        for (int n : NO_TICKS) {
            same("ticks " + n, r.least(0, 0, L, 0, 0, n), -1);
        }
        for (int far : new int[] {1, -1, Integer.MIN_VALUE, Integer.MAX_VALUE}) {
            same("law " + far, r.least(far, 0, L, 0, 0, 1), -1);
            same("drop " + far, r.least(0, far, L, 0, 0, 1), -1);
        }
        for (int far : new int[] {4, -1, Integer.MIN_VALUE, Integer.MAX_VALUE}) {
            same("want " + far, r.least(0, 0, L, far, 0, 1), -1);
        }
    }

    private static void leastOfTheTicks() {
        RingDrop r = with("y:t=59?w", "k2,w900,l7");
        want(r, "n>9");
        same("in 59 none", r.least(0, 0, L, 0, 0, 59), -1);
        same("in 60", r.least(0, 0, L, 0, 0, 60), 10);
        same("line in 59", r.line(0, 0, G, L, 3, 0, 0, 59), -1);
        same("line in 60", r.line(0, 0, G, L, 3, 0, 0, 60), 7);
        same("edge in 59", r.line(0, 0, G, L, -1, 0, 0, 59), 0);
        same("edge in 60", r.line(0, 0, G, L, -1, 0, 0, 60), 127);
        same("luck in 59", r.luck(0, 0, 0, 0, 3, 59), 0);
        RingDrop s = with("y:t=59?w", "k2,w900,l17");
        want(s, "n>9");
        want(s, "n<9");
        same("luck in 60", s.luck(0, 0, 0, 0, 3, 60), 3);
        same("luck in 59", s.luck(0, 0, 0, 0, 3, 59), 0);
        same("luck in 1", s.luck(0, 0, 1, 0, 3, 1), 3);
        same("luck in 60", s.luck(0, 0, 1, 0, 3, 60), 0);
    }

    /** Each of the six letters, as line() has it first and second. */
    private static void theSixLetters() {
        RingDrop r = with("y:0", "k4,w40,l8,c99");
        want(r, "n>3");
        same("e: 40 are less than 11 * 4", r.least(0, 0, E, 0, 0, 1), 11);
        same("e: none is less than 10 * 4", r.line(0, 0, L, E, 3, 0, 0, 1), -1);
        same("e as told, l: 2 2 2 2", r.line(0, 0, E, L, 11, 0, 0, 1), 8);
        same("e as told, l", r.line(0, 0, E, L, 10, 0, 0, 1), -1);
        same("edge of e", r.line(0, 0, E, L, -1, 0, 0, 1), 124);
        RingDrop m = with("y:m", "k2,w20,l8");
        want(m, "n>3");
        same("m: 10 less 5 bear 2 of 4", m.least(0, 0, 5, 0, 0, 1), 5);
        same("m and l", m.line(0, 0, L, 5, 4, 0, 0, 1), 9);
        RingDrop a = with("y:8", "k2,w20,l8,a50");
        want(a, "n<1");
        // 10 less 2 bear 4 of 4, and 8 less 8 * a / 100 are 2 from 75 on.
        same("a: not within sixty", a.least(0, 0, A, 0, 0, 1), -1);
        RingDrop b = with("y:4", "k2,w20,l8");
        want(b, "n<1");
        same("a: 4 less 2 are 2", b.least(0, 0, A, 0, 0, 1), 50);
        same("l 6 bears without", b.line(0, 0, L, A, 6, 0, 0, 1), 0);
        same("l 8", b.line(0, 0, L, A, 8, 0, 0, 1), 50);
        same("l 9", b.line(0, 0, L, A, 9, 0, 0, 1), -1);
        RingDrop p = with("y:g=201?w", "k2,w200,g401,c99");
        want(p, "n>0");
        // 0 100 become 50 50; of 200 in the last half go to 201, and 495 are borne.
        same("p: none", p.least(0, 0, P, 0, 0, 1), -1);
        RingDrop q = with("y:g=201?w", "k2,w200,g401,c60");
        want(q, "n<1");
        // 300 are borne: 201 and one of 100 less the pull.
        same("p: 99 of 100 go", q.least(0, 0, P, 0, seedFor(0, 0), 1), 1);
    }

    // ---- 36: line ----

    private static void edgeOfTensAlone() {
        RingDrop r = with("y:w", "k2,w9");
        want(r, "n/10*10=n");
        want(r, "n=30");
        want(r, "n=60|n=0");
        want(r, "n=61|n=70");
        same("0, 10, .. 60", r.line(0, 0, G, P, -1, 0, 0, 1), 127);
        same("30", r.line(0, 0, G, P, -1, 1, 0, 1), 8);
        same("0 and 60", r.line(0, 0, G, P, -1, 2, 0, 1), 65);
        same("none beyond", r.line(0, 0, G, P, -1, 3, 0, 1), 0);
        same("61 by two letters", r.line(0, 0, G, L, -1, 3, 0, 1), 126);
    }

    private static void lineFromNoneToSixty() {
        RingDrop r = with("y:w", "k2,w9,g5,l7");
        want(r, "n=60");
        want(r, "n=0");
        want(r, "n>119");
        same("0 and 60", r.line(0, 0, G, L, 0, 0, 0, 1), 60);
        same("60 and 0", r.line(0, 0, G, L, 60, 0, 0, 1), 0);
        same("0 and 0", r.line(0, 0, G, L, 0, 1, 0, 1), 0);
        same("60 and 60", r.line(0, 0, L, G, 60, 2, 0, 1), 60);
        same("59 and 60 are too few", r.line(0, 0, L, G, 59, 2, 0, 1), -1);
        same("another letter: g as it is", r.line(0, 0, P, L, 60, 0, 0, 1), 55);
        for (int number : new int[] {61, -2, Integer.MIN_VALUE, Integer.MAX_VALUE}) {
            same("number " + number, r.line(0, 0, G, L, number, 0, 0, 1), -1);
        }
        for (int letter : new int[] {0, 1, 2, 8, 10, 11, 12, -1, Integer.MIN_VALUE, Integer.MAX_VALUE}) {
            same("one " + letter, r.line(0, 0, letter, L, 5, 0, 0, 1), -1);
            same("other " + letter, r.line(0, 0, L, letter, -1, 0, 0, 1), -1);
        }
        for (int letter : new int[] {3, 4, 5, 6, 7, 9}) {
            same("alike", r.line(0, 0, letter, letter, 5, 0, 0, 1), -1);
            same("alike", r.line(0, 0, letter, letter, -1, 0, 0, 1), -1);
        }
        same("the drop is as it was", r.drop(0, G) * 100 + r.drop(0, L), 507);
    }

    // ---- 28, 29: parts and next ----

    private static void partsOfTwoLaws() {
        RingDrop r = with("y:w", "k2,w90,l7", "x5,k2,w90,l7", "x9,k2,w90,l3");
        law(r, "y:t=1?w");
        same("7 lie by the one", r.parts(0, 1, 0, 0, 1), 7);
        same("and by the other", r.parts(1, 0, 0, 0, 1), 7);
        same("by both", r.parts(0, 1, 0, 0, 2), 0);
        same("one law", r.parts(1, 1, 0, 0, 60), 0);
        same("several: the lowest", r.next(0, 1, 7, 0, 1), 0);
        same("of the others", r.next(0, 1, 6, 0, 1), 1);
        same("the first alone", r.next(0, 1, 1, 0, 1), 0);
        same("the third alone", r.next(0, 1, 4, 0, 1), 2);
        same("none is parted", r.next(0, 1, 6, 0, 60), 1);
        for (int bits : new int[] {0, 8, 9, -1, Integer.MIN_VALUE}) {
            same("bits " + bits, r.next(0, 1, bits, 0, 1), -1);
        }
        for (int n : NO_TICKS) {
            same("parts of ticks " + n, r.parts(0, 1, 0, 0, n), -1);
            same("next of ticks " + n, r.next(0, 1, 1, 0, n), -1);
        }
        for (int far : FAR) {
            same("drop " + far, r.parts(0, 1, far, 0, 1), -1);
            same("one " + far, r.parts(far, 1, 0, 0, 1), -1);
            same("other " + far, r.parts(0, far, 0, 0, 1), -1);
            same("one " + far, r.next(far, 1, 1, 0, 1), -1);
            same("other " + far, r.next(0, far, 1, 0, 1), -1);
        }
    }

    // ---- 30, 31: printed and dots ----

    private static void asManyAsTheStripHolds() {
        RingDrop r = with("y:w", "k2", "x22,k2", "k12", "k13", "k24", "k8", "k7");
        int[][] due = {{0, 0, 12}, {0, 1, 8}, {0, 2, 6}, {0, 9, 3}, {1, 9, 3}, {1, 0, 12}, {2, 0, 2}, {2, 1, 1}, {3, 0, 1}, {4, 0, 1},
            {4, 9, 1}, {5, 0, 3}, {5, 1, 2}, {5, 8, 2}, {5, 9, 1}, {6, 1, 3}, {6, 2, 2}};
        for (int[] d : due) {
            same("drop " + d[0] + " with gap " + d[1], r.printed(0, d[0], d[1], 0, 1, 1), d[2]);
        }
        for (int gap : new int[] {-1, 10, Integer.MIN_VALUE, Integer.MAX_VALUE}) {
            same("gap " + gap, r.printed(0, 0, gap, 0, 1, 1), -1);
        }
        for (int what : new int[] {-1, 2, Integer.MIN_VALUE, Integer.MAX_VALUE}) {
            same("what " + what, r.printed(0, 0, 0, 0, 1, what), -1);
        }
        for (int n : NO_TICKS) {
            same("printed of ticks " + n, r.printed(0, 0, 0, 0, n, 1), -1);
            same("dots of ticks " + n, r.dots(0, 0, 0, n), -1);
        }
        for (int far : FAR) {
            same("law " + far, r.printed(far, 0, 0, 0, 1, 1), -1);
            same("drop " + far, r.printed(0, far, 0, 0, 1, 1), -1);
            same("law " + far, r.dots(far, 0, 0, 1), -1);
            same("drop " + far, r.dots(0, far, 0, 1), -1);
        }
    }

    private static void withoutAGapTheyTouch() {
        // Six that touch are one, wider than twice nine and one: in the second tick it lets go, and one lies in each cell at its ends.
        RingDrop r = with("y:t=1&i>3?w*4/5", "x20,k4,w100,l4,c99,e10,j9");
        same("none lies yet", r.printed(0, 0, 0, 0, 1, 0), 0);
        same("one more at the ends", r.printed(0, 0, 0, 0, 2, 0), 1);
        same("and it stays so", r.printed(0, 0, 0, 0, 60, 0), 1);
        same("apart they do not", r.printed(0, 0, 1, 0, 60, 0), 0);
        same("all alike in one tick: the lowest", r.dots(0, 0, 0, 1), 0);
        same("apart in two", r.dots(0, 0, 0, 2), 1);
        same("apart in sixty", r.dots(0, 0, 0, 60), 1);
        same("the drop is as it was", r.drop(0, 0), 20);
    }

    // ---- 34, 35: dry and luck ----

    private static void dryInTwoHundred() {
        RingDrop r = with("y:1", "k2,w400", "k2,w401", "k2,w2", "k2,w3", "x22,k2,w1");
        int[] due = {200, -1, 1, 2, 1};
        for (int d = 0; d < 5; d++) {
            same("dry " + d, r.dry(0, d, 0), due[d]);
        }
        law(r, "y:0");
        same("never", r.dry(1, 4, 0), -1);
        for (int far : new int[] {5, -1, Integer.MIN_VALUE, Integer.MAX_VALUE}) {
            same("law " + far, r.dry(far, 0, 0), -1);
            same("drop " + far, r.dry(0, far, 0), -1);
        }
    }

    private static void luckOfTwentySeeds() {
        RingDrop r = with("y:w", "k2,w9,g2");
        want(r, "v=2");
        for (long first : new long[] {0, -7, Long.MAX_VALUE, Long.MAX_VALUE - 9, Long.MIN_VALUE}) {
            int due = 0;
            for (int seeds = 1; seeds <= 20; seeds++) {
                // One grain in each cell: either the first goes to the right, or, where it stays, the second to the left.
                int[] draws = draws(first + seeds - 1, 2);
                due += (draws[0] == 2) != (draws[1] == 1) ? 1 : 0;
                same(seeds + " seeds from " + first, r.luck(0, 0, 0, first, seeds, 1), due);
            }
        }
        for (int seeds : new int[] {0, 21, -1, Integer.MIN_VALUE, Integer.MAX_VALUE}) {
            same("seeds " + seeds, r.luck(0, 0, 0, 0, seeds, 1), -1);
        }
        for (int n : NO_TICKS) {
            same("ticks " + n, r.luck(0, 0, 0, 0, 1, n), -1);
        }
        for (int far : new int[] {1, -1, Integer.MIN_VALUE, Integer.MAX_VALUE}) {
            same("law " + far, r.luck(far, 0, 0, 0, 1, 1), -1);
            same("drop " + far, r.luck(0, far, 0, 0, 1, 1), -1);
            same("want " + far, r.luck(0, 0, far, 0, 1, 1), -1);
        }
    }

    // ---- 37: alike ----

    private static void alikeToTheGreaterWidth() {
        RingDrop r = with("y:t=1?w", "k2,w900,l4", "x10,k4,w900,l8", "x22,k2,w900,l4", "k24,w999,l24", "x12,k2,w900,l2",
            "x20,k4,w900,l4");
        same("none lies yet", r.alike(0, 0, 1, 0, 1), 4);
        same("2 2 0 0 and 2 2 2 2", r.alike(0, 0, 1, 0, 2), 2);
        same("in sixty", r.alike(0, 0, 1, 0, 60), 2);
        same("2 2 and 2 2", r.alike(0, 0, 2, 0, 2), 2);
        same("itself", r.alike(0, 3, 3, 0, 2), 24);
        same("1 1 and 22 none of 24, half of them beyond the strip", r.alike(0, 3, 4, 0, 2), 2);
        same("none lie beyond the strip: 2 2 and 1 1 1 1", r.alike(0, 2, 5, 0, 2), 0);
        same("1 1 1 1 of 24", r.alike(0, 5, 3, 0, 2), 4);
        law(r, "y:0");
        same("nothing lies, beyond the strip too", r.alike(1, 2, 3, 0, 60), 24);
        for (int n : NO_TICKS) {
            same("ticks " + n, r.alike(0, 0, 1, 0, n), -1);
        }
        for (int far : FAR) {
            same("law " + far, r.alike(far, 0, 1, 0, 2), -1);
            same("one " + far, r.alike(0, far, 1, 0, 2), -1);
            same("other " + far, r.alike(0, 0, far, 0, 2), -1);
        }
    }

    public static void main(String[] args) {
        triedWithoutAStart();
        triedSixtyTicks();
        triedLeavesTheStrip();
        thePaceOfNow();
        leastFromNoneToSixty();
        leastOfTheTicks();
        theSixLetters();
        edgeOfTensAlone();
        lineFromNoneToSixty();
        partsOfTwoLaws();
        asManyAsTheStripHolds();
        withoutAGapTheyTouch();
        dryInTwoHundred();
        luckOfTwentySeeds();
        alikeToTheGreaterWidth();
        finish("TryEdgeTest");
    }
}
