/** Promises 1 to 7 and 45: a new object, the tape, texts and their faults, what a law is worth. */
public final class TextTest {
    private static final int LAW = 0;
    private static final int WANT = 1;
    private static final int DROP = 2;

    private static void newObject() {
        RingDrop r = new RingDrop();
        Check.same("NONE", RingDrop.NONE, -1);
        Check.same("HIDDEN", RingDrop.HIDDEN, -100000);
        for (int c = 0; c < 24; c++) {
            Check.same("water", r.water(c), 0);
            Check.same("flow", r.flow(c), 0);
            for (int s = 0; s < 2; s++) {
                Check.same("free", r.free(c, s), 0);
                Check.same("lies", r.lies(c, s), 0);
                Check.same("heap", r.heap(c, s), 0);
            }
        }
        for (int what = 0; what < 9; what++) {
            Check.same("about", r.about(what), 0);
        }
        Check.same("body", r.body(0, 0), -1);
        Check.same("tick", r.tick(1), -1);
        Check.same("rush", r.rush(0), -1);
        Check.same("speed", r.speed(), 0);
        Check.same("came", r.came(1), -1);
        Check.same("middle", r.middle(0), -1);
        Check.same("back", r.back(), -1);
        Check.same("met", r.met(0), -1);
        int[] counts = {0, 0, 0, 0, 0, 3};
        for (int i = 0; i < 6; i++) {
            Check.same("count " + i, r.count(i), counts[i]);
        }
    }

    private static void tape() {
        RingDrop r = new RingDrop();
        Check.same("feed, zeros left out", r.feed(0x78003100, 0x00000032, 0, 0x2C000000, 0x006B0038), 6);
        Check.same("x12,k8 is a drop", r.fault(DROP), -1);
        Check.same("its number", r.text(DROP), 0);
        Check.same("x", r.drop(0, 0), 12);
        Check.same("k", r.drop(0, 1), 8);
        Check.same("the last numbers count too", r.feed(0, 0, 0, 0x77310000, 0x00002C35), 4);
        r.end(0);
        for (int n = 0; n < 7; n++) {
            r.feed(-1, -1, -1, -1, -1);
        }
        Check.same("one of 21 more", r.feed(-1, -1, -1, -1, -1), 160);
        r.end(157);
        Check.same("four more than 157", r.feed(0, 0, 0, -1, 0), -1);
        r.end(0);
        Check.same("tape is empty", r.count(4), 0);
        Check.same("feed nothing", r.feed(0, 0, 0, 0, 0), 0);
        for (int n = 1; n <= 8; n++) {
            Check.same("feed twenty", r.feed(-1, 0x20202020, 0x20202020, 0x20202020, 0x20202020), 20 * n);
        }
        Check.same("feed nothing to a full tape", r.feed(0, 0, 0, 0, 0), 160);
        Check.same("feed one too many", r.feed(0, 0, 0, 0, 1), -1);
        Check.same("nothing came", r.count(4), 160);
        Check.no("end(161)", r.end(161));
        Check.no("end(-1)", r.end(-1));
        Check.yes("end(160)", r.end(160));
        Check.yes("end(150)", r.end(150));
        Check.same("too many by one", r.feed(0x20202020, 0x20202020, 0x20202000, 0, 0), -1);
        Check.same("just as many", r.feed(0x20202020, 0x20202020, 0x20200000, 0, 0), 160);
        Check.yes("end(0)", r.end(0));
        Check.no("end(1)", r.end(1));
        Check.feed(r, "k9,w12345");
        Check.yes("end(2)", r.end(2));
        Check.same("first bytes stay", r.fault(DROP), -1);
        Check.feed(r, ",w7");
        r.text(DROP);
        Check.same("w", r.drop(1, 2), 7);
    }

    private static void faults(RingDrop r, int sort, String... textsAndFaults) {
        for (int i = 0; i < textsAndFaults.length; i += 2) {
            String text = textsAndFaults[i];
            Check.same("fault of '" + text + "' as " + sort, Check.fault(r, text, sort),
                Integer.parseInt(textsAndFaults[i + 1]));
        }
    }

    private static void faultsOfLaws() {
        RingDrop r = new RingDrop();
        faults(r, LAW, "", "0", "  ", "2", "y", "1", "y:", "2", "y:5", "-1", " y : 5 ", "-1", "y:5;", "4", "y:5 ; y:6", "-1",
            "y:5;z", "4", "x", "0", "Y:5", "0", "y5", "1", "y:12345", "6", "y:00000", "6", "y:1234", "-1", "y:12 34", "5",
            "y:12340", "6", "y:12349", "6", "y:(!!!!!!1=1", "8", "y:1=1?[[[[[[1]]]]]]", "-1", "y:1=1?[[[[[[[", "12",
            "y:i+w-g*t/m+a-k", "-1", "y:e", "2", "y:i+", "4", "y:+i", "2", "y:-5", "2", "y:5=", "4", "y:5=5", "5",
            "y:5=5?", "6", "y:5=5?6", "-1", "y:5=5?6=7", "7", "y:5=5?6?7", "7", "y:5=5;y:3", "5", "y:5?6", "3", "y:5&6", "3",
            "y:!i=1?2", "-1", "y:(i=1)?2", "-1", "y:(i=1)", "7", "y:(i=1)+2", "7", "y:(i)", "4", "y:(i=1?2", "6",
            "y:[i]", "-1", "y:[i=1]", "4", "y:[i)", "4", "y:i]", "3", "y:i=1)?2", "5", "y:i=1|w>2&!(g<3|t=4)?[k]", "-1",
            "y:i=1&", "6", "y:i=1&&", "6", "y:i=1||", "6", "y:i==1", "4", "y:i=1>2?3", "5", "y:!5", "4", "y:!!i=1?2", "-1",
            "y:[[[[[[1]]]]]]", "-1", "y:[[[[[[[1", "8", "y:!!!!!!1=1?2", "-1", "y:!!!!!!!", "8", "y:((((((1=1))))))?2", "-1",
            "y:(((((((", "8", "y:!(!(!([", "8", "y:!(!(!(1=[", "10", "y:!(!(![1]=[2]))&[[[[[[1]]]]]]=1?2", "-1",
            "y:(1=1)&((((((1=1))))))?2", "-1", "y:5\u0080", "3", "y:\u00ff", "2", "y:5?", "3", "y:i w", "4", "y::", "2",
            "y:5;;", "4", "y:[]", "3", "y:()", "3", "y:5 ", "-1", "y: ( i = 1 ) ? [ 2 ] ; y : ! i > 1 & 2 < 3 ? 4 ", "-1");
    }

    private static void faultsOfWants() {
        RingDrop r = new RingDrop();
        faults(r, WANT, "", "0", " ", "1", "e", "1", "e>1", "-1", "e>r+v*n/h-t", "-1", "i>1", "0", "e>w", "2", "e>1;", "3",
            "e>1?", "3", "e>1|", "4", "(e>1)", "-1", "(e>1", "4", "!e>1", "-1", "!!!!!!!", "6", "e>12345", "6", "e>[1+2]", "-1",
            "e>[1+2", "6", "e", "1", "5=5", "-1", "y:5", "0", "e>1 2", "4", " ( e > 1 | ! r = 2 ) & n < 3 ", "-1", "e>1)", "3");
    }

    private static void faultsOfDrops() {
        RingDrop r = new RingDrop();
        faults(r, DROP, "", "0", " ", "1", "x", "1", "x5", "-1", "x24", "2", "x023", "4", "x016", "-1", "x16", "-1", "x17", "3",
            "x17,k7", "-1", "k7 , x17 ", "-1", "x17,k8", "6", "x17,k8 ", "7", "k1", "1", "k01", "2", "k25", "2", "k24", "-1",
            "k2", "-1", "w0", "1", "w1", "-1", "w999", "-1", "w1000", "4", "w00001", "5", "w00000", "5", "w00009", "5",
            "w 00000", "6", "w0999", "-1", "g999", "-1", "g1000", "4",
            "l999", "-1", "l1000", "4", "m99", "-1", "m100", "3", "a99", "-1", "a100", "3", "p100", "-1", "p101", "3", "c0", "1",
            "c1", "-1", "c99", "-1", "c100", "3", "e0", "-1", "e99", "-1", "e100", "3", "j0", "1", "j1", "-1", "j9", "-1", "j10", "2",
            "s9", "-1", "s10", "2", "g5,g6", "3", "g5,", "3", "g5 ,", "4", "g5g6", "2", ",", "0", "g5;l6", "2", "g,", "1", "g -", "2",
            "z5", "0", "g5 6", "3", "g12 3456", "4", "99", "0", " g 5 , l 6 ", "-1", "x99999", "5", "x9999", "4", "x5,k30,", "5",
            "x0,k2,w3,g4,l5,m6,a7,p8,c9,e1,j2,s3", "-1", "x0,k2,w3,g4,l5,m6,a7,p8,c9,e1,j2,s3,x4", "36",
            "\u00e9", "0", "g5\u0081", "2");
        r.end(0);
        Check.same("no such sort", r.fault(3), -2);
        Check.same("no such sort", r.fault(-1), -2);
    }

    private static void texts() {
        RingDrop r = new RingDrop();
        Check.feed(r, "y:5");
        Check.same("as a want", r.text(WANT), -1);
        Check.same("no such sort", r.text(3), -1);
        Check.same("no such sort", r.text(-1), -1);
        Check.same("the tape stays", r.count(4), 3);
        for (int n = 0; n < 4; n++) {
            Check.same("law", Check.law(r, "y:" + n), n);
            Check.same("want", Check.want(r, "n=" + n), n);
        }
        for (int n = 0; n < 12; n++) {
            Check.same("drop", Check.drop(r, "w" + (n + 1)), n);
        }
        Check.feed(r, "y:5");
        Check.same("a fifth law", r.text(LAW), -1);
        Check.same("the tape stays", r.count(4), 3);
        r.end(0);
        Check.feed(r, "n>5");
        Check.same("a fifth want", r.text(WANT), -1);
        r.end(0);
        Check.feed(r, "w99");
        Check.same("a 13th drop", r.text(DROP), -1);
        Check.same("laws", r.count(0), 4);
        Check.same("wants", r.count(1), 4);
        Check.same("drops", r.count(2), 12);
        Check.same("stains", r.count(3), 0);
        Check.same("bytes", r.count(4), 3);
        Check.same("pace", r.count(5), 3);
        Check.same("no such count", r.count(6), -1);
        Check.same("no such count", r.count(-1), -1);
        Check.same("the last drop", r.drop(11, 2), 12);
    }

    private static void drops() {
        RingDrop r = new RingDrop();
        Check.drop(r, "g0");
        Check.drop(r, "s1,j2,e3,c4,p5,a6,m7,l8,g9,w10,k11,x12");
        int[] without = {0, 8, 300, 0, 0, 0, 0, 0, 5, 0, 1, 0};
        int[] told = {12, 11, 10, 9, 8, 7, 6, 5, 4, 3, 2, 1};
        for (int what = 0; what < 12; what++) {
            Check.same("without " + what, r.drop(0, what), without[what]);
            Check.same("told " + what, r.drop(1, what), told[what]);
        }
        Check.yes("drop(2, 0)", Check.throwsNoSuch(r, 2, 0));
        Check.yes("drop(-1, 0)", Check.throwsNoSuch(r, -1, 0));
        Check.yes("drop(0, 12)", Check.throwsNoSuch(r, 0, 12));
        Check.yes("drop(0, -1)", Check.throwsNoSuch(r, 0, -1));
        Check.no("drop(1, 11)", Check.throwsNoSuch(r, 1, 11));
    }

    private static void pace() {
        RingDrop r = new RingDrop();
        Check.no("pace(-1)", r.pace(-1));
        Check.no("pace(100)", r.pace(100));
        Check.same("pace stays", r.count(5), 3);
        Check.yes("pace(0)", r.pace(0));
        Check.same("pace", r.count(5), 0);
        Check.yes("pace(99)", r.pace(99));
        Check.same("pace", r.count(5), 99);
        Check.law(r, "y:999");
        Check.drop(r, "k2,w10,l7");
        int[][] rows = {{2, 0, 0}, {3, 0, 3}, {4, 4, 3}};
        for (int[] due : rows) {
            r.pace(due[0]);
            r.start(0, 1, 1);
            r.tick(1);
            Check.same("rows at pace " + due[0], r.heap(0, 0), due[1]);
            Check.same("rows at pace " + due[0], r.heap(1, 0), due[2]);
            Check.same("heap at pace " + due[0], r.heap(0, 1), 4 - due[1]);
            Check.same("heap at pace " + due[0], r.heap(1, 1), 3 - due[2]);
        }
    }

    /** How much a drop of three cells (90, 120, 90 of water) loses in its ticks by a law. */
    private static void goes(String law, String drop, int ticks, int due) {
        RingDrop r = new RingDrop();
        Check.law(r, law);
        Check.drop(r, drop);
        r.start(0, 1, 5);
        r.tick(ticks);
        Check.same("gone by " + law + " from " + drop, r.about(6), due);
    }

    private static void worths() {
        String d = "k3,w300,g3,l3,m7,c99";
        goes("y:i", d, 1, 1);
        goes("y:w/2", d, 1, 150);
        goes("y:g", "k3,w300,l6,m7,c99", 1, 6);
        goes("y:t", d, 1, 0);
        goes("y:t", d, 3, 9);
        goes("y:m", d, 1, 21);
        goes("y:k", d, 1, 9);
        goes("y:a", "k3,w300,a10", 1, 27);
        goes("y:7", "k3,w300,a50", 1, 12);
        goes("y:7", "k3,w300,a99", 1, 3);
        goes("y:7-8", d, 1, 0);
        goes("y:9999", d, 1, 300);
        goes("y:1+2*3-8/2", d, 1, 9);
        goes("y:[1+2]*3", d, 1, 27);
        goes("y:9-4-3", d, 1, 6);
        goes("y:40/4/5", d, 1, 6);
        goes("y:7/0+1", d, 1, 3);
        goes("y:[1-8]/2+5", d, 1, 6);
        goes("y:9999*9999/9999-90", d, 1, 30);
        goes("y:100-9999*9999*9999/9999", d, 1, 0);
        goes("y:0-9999*9999*9999+9999*9999+3", d, 1, 9);
        goes("y:9999*100+200-9999*100", d, 1, 280);
        goes("y:0-9999*100-200+9999*100+102", d, 1, 6);
        goes("y:i=0?5", d, 1, 10);
        goes("y:i=0?5;y:2", d, 1, 12);
        goes("y:2;y:i=0?5", d, 1, 6);
        goes("y:i=5?5;y:i=4?4;y:i=1?3", d, 1, 3);
        goes("y:i<1?4;y:i>0?1", d, 1, 9);
        goes("y:!i=0?5", d, 1, 5);
        goes("y:!!i=0?5", d, 1, 10);
        goes("y:1=2|i=0&2=2?5", d, 1, 10);
        goes("y:i=0|1=1&1=2?5", d, 1, 10);
        goes("y:(i=0|1=1)&1=2?5", d, 1, 0);
        goes("y:!(i=0|i=3)?5", d, 1, 5);
        goes("y:!i=0&i<5?5", d, 1, 5);
        goes(" y : [ i + 1 ] * 2 = 2 ? 0004 ", d, 1, 8);
    }

    /** Texts that fill the tape, each byte of them something to work off. */
    private static void longTexts() {
        RingDrop r = new RingDrop();
        Check.same("want", Check.want(r, "!" + "n+".repeat(78) + "n=1"), 0);
        Check.same("want", Check.want(r, "!" + "n+".repeat(78) + "n=0"), 1);
        Check.same("met", r.met(0), 1);
        Check.same("not met", r.met(1), 0);
        Check.same("want", Check.want(r, "!n=n|".repeat(31) + "t=0"), 2);
        Check.same("met", r.met(2), 1);
        Check.same("law", Check.law(r, "y:" + "1+".repeat(78) + "1"), 0);
        Check.same("law", Check.law(r, "y:i=9?1;".repeat(19) + "y:2"), 1);
        Check.drop(r, "k2,w900");
        r.start(0, 1, 0);
        r.tick(1);
        Check.same("79 from each", r.about(6), 158);
        r.start(1, 1, 0);
        r.tick(1);
        Check.same("2 from each", r.about(6), 4);
    }

    public static void main(String[] args) {
        newObject();
        longTexts();
        tape();
        faultsOfLaws();
        faultsOfWants();
        faultsOfDrops();
        texts();
        drops();
        pace();
        worths();
        Check.finish("TextTest");
    }
}
