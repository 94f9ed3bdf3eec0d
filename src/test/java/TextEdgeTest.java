/** The edges that the document names of the tape, of texts, their faults and what they are worth (promises 1 to 7, 45). */
public final class TextEdgeTest extends Check {
    private static final int LAW = 0;
    private static final int WANT = 1;
    private static final int DROP = 2;
    private static final int[] FAR = {-1, Integer.MIN_VALUE, Integer.MAX_VALUE};

    // ---- 1: a new object ----

    private static void aNewObjectIsItsOwn() {
        RingDrop used = with("y:w", "k2,w9,l3");
        used.start(0, 1, 5);
        used.tick(1);
        used.image();
        used.pace(50);
        used.stain();
        used.print(0);
        RingDrop r = new RingDrop();
        same("its lying ones", r.about(3), 0);
        same("its ticks", r.about(5), 0);
        same("no start", r.tick(1), -1);
        same("no image", r.back(), -1);
        same("pace", r.count(5), 3);
        same("stains", r.count(3), 0);
        same("laws", r.count(0), 0);
        yes("no drop", throwsNoSuch(r, 0, 0));
        same("no such stain", r.print(0), -1);
    }

    // ---- 2: "of each number the highest first; bytes of 0 are left out", "more than 160" ----

    private static void highestByteFirst() {
        RingDrop r = new RingDrop();
        same("each number by its highest byte", r.feed(0x77310000, 0x32000033, 0, 0x002C6700, 0x00000037), 7);
        r.text(DROP);
        same("w123", r.drop(0, 2), 123);
        same("g7", r.drop(0, 3), 7);
        same("a byte of 255 is a byte", r.feed(0xFF000000, 0, 0, 0, 0x000000FF), 2);
        same("and so is one of 128", r.feed(0x80808080, 0, 0, 0, 0), 6);
    }

    private static void feedOnlyZeros() {
        RingDrop r = new RingDrop();
        same("nothing comes to nothing", r.feed(0, 0, 0, 0, 0), 0);
        Check.feed(r, "y:5");
        same("nothing comes to three", r.feed(0, 0, 0, 0, 0), 3);
    }

    private static void feedTheTapeFull() {
        RingDrop r = new RingDrop();
        same("140", Check.feed(r, " ".repeat(140)), 140);
        same("twenty are just enough", Check.feed(r, " ".repeat(20)), 160);
        same("none besides", r.feed(0, 0, 0, 0, 0), 160);
        same("one is too many", r.feed(0, 0, 0x00310000, 0, 0), -1);
        same("it has 160", r.count(4), 160);
        r.end(141);
        same("twenty more than 141", r.feed(-1, -1, -1, -1, -1), -1);
        same("none of them came", r.count(4), 141);
        same("the bytes are as they were", r.fault(LAW), 141);
        same("nineteen more", r.feed(-1, -1, -1, -1, 0x20202000), 160);
        same("they came", r.fault(LAW), 141);
    }

    // ---- 3: "its first n bytes alone. False: n" ----

    private static void endOfAll() {
        RingDrop r = new RingDrop();
        yes("end(0) of an empty tape", r.end(0));
        no("end(1) of an empty tape", r.end(1));
        Check.feed(r, "y:5");
        yes("all of three", r.end(3));
        same("three", r.count(4), 3);
        no("four of three", r.end(4));
        for (int n : FAR) {
            no("end " + n, r.end(n));
        }
        same("three as they were", r.fault(LAW), -1);
        yes("two of three", r.end(2));
        no("the third is gone", r.end(3));
        same("y: alone", r.fault(LAW), 2);
        Check.feed(r, "7");
        same("the next goes behind", r.fault(LAW), -1);
    }

    // ---- 4: fault ----

    private static void faults(int sort, Object... textsAndFaults) {
        RingDrop r = new RingDrop();
        for (int i = 0; i < textsAndFaults.length; i += 2) {
            String text = (String) textsAndFaults[i];
            same("fault of '" + text + "' as " + sort, fault(r, text, sort), (Integer) textsAndFaults[i + 1]);
        }
    }

    private static void faultLeavesTheTape() {
        RingDrop r = new RingDrop();
        Check.feed(r, "e>1");
        same("no law", r.fault(LAW), 0);
        same("a want", r.fault(WANT), -1);
        same("no drop", r.fault(DROP), 1);
        same("a want, as ahead", r.fault(WANT), -1);
        same("three bytes", r.count(4), 3);
        for (int sort : FAR) {
            same("no such sort " + sort, r.fault(sort), -2);
        }
        same("no such sort 3", r.fault(3), -2);
        same("a want at last", r.text(WANT), 0);
    }

    private static void tooEarlyAnEndIsTheLength() {
        faults(LAW, "", 0, "y", 1, "y:", 2, "y: ", 3, "y:1+", 4, "y:1*", 4, "y:[1", 4, "y:1;", 4, "y:1; ", 5, "y:!", 3, "y:(", 3,
            "y:1=", 4, "y:1=1", 5, "y:1=1 ", 6, "y:1=1?", 6, "y:1=1&", 6, "y:1=1|", 6, "y:(1=1)", 7, "y:(1=1", 6, "y:(1", 4,
            " ".repeat(160), 160, "y:1" + "+1".repeat(78) + "+", 160);
        faults(WANT, "", 0, "e", 1, "e+", 2, "e>", 2, "e>1&", 4, "e>1|", 4, "!", 1, "(", 1, "(e>1", 4, "e>[1", 4, "e ", 2,
            " ".repeat(160), 160, "n" + "+n".repeat(79), 159, "n" + "+n".repeat(79) + " ", 160);
        faults(DROP, "", 0, "g", 1, "g ", 2, "g5,", 3, "g5, ", 4, " ".repeat(160), 160, "k9,x16", 6, "k9,x16 ", 7);
    }

    private static void aFullTapeIsNoFault() {
        faults(LAW, "y:1" + "+1".repeat(78) + " ", -1, "y:1;".repeat(39) + "y:1 ", -1, " ".repeat(157) + "y:1", -1,
            "y:" + " ".repeat(157) + "1", -1, "y:" + " ".repeat(157) + "!", 160);
        faults(WANT, "n" + "+n".repeat(78) + "=0 ", -1);
        faults(DROP, "g5" + " ".repeat(158), -1, " ".repeat(158) + "g5", -1, " ".repeat(159) + "5", 159);
    }

    private static void numbersHaveFourDigitsAtMost() {
        faults(LAW, "y:0", -1, "y:9999", -1, "y:0000", -1, "y:00000", 6, "y:99999", 6, "y:123456", 6, "y:1+12345", 8,
            "y:12345=1?2", 6, "y:[12345]", 7, "y:1234 5", 7, "y:1 2", 4, "y:1=2345 6?7", 9);
        faults(WANT, "e>0000", -1, "e>00000", 6, "12345>e", 4, "1234>e", -1, "e>1 2", 4);
        faults(DROP, "g0005", -1, "g00005", 5, "g 00005", 6, "g0 05", 3, "g99999", 5, "x0,g12345", 8);
    }

    private static void sixWithinOneAnother() {
        faults(LAW, "y:((((((1=1))))))?2", -1, "y:(((((((1=1", 8, "y:!!!!!!1=1?2", -1, "y:!!!!!!!1=1", 8,
            "y:[[[[[[1]]]]]]", -1, "y:[[[[[[[1", 8, "y:1=[[[[[[1]]]]]]?2", -1, "y:1=[[[[[[[1", 10, "y:1=1?[[[[[[[", 12,
            "y:!(!(!([", 8, "y:!(!(![1]=1))?2", -1, "y:((([[[1]]]=1)))?2", -1, "y:((([[[[1", 8, "y:(((1=[[[[1", 10,
            "y:!!!!!![1]=1", 8, "y:!!!!![1]=[1]?2", -1, "y:(((((!(1", 8, "y:(((((!1=1)))))?2", -1,
            "y:1=1&!!!!!!!", 12, "y:1=1|!!!!!!(", 12);
        faults(WANT, "((((((e=1))))))", -1, "(((((((", 6, "!!!!!!e=1", -1, "!!!!!!!", 6, "[[[[[[e]]]]]]=1", -1, "[[[[[[[", 6,
            "!!!!!!(", 6, "!!!!!![", 6, "(((((![", 6, "!!!!!e=[1]", -1, "((((((e=[", 8);
    }

    private static void moreThanSixBesideOneAnother() {
        faults(LAW, "y:!1=1&!1=1&!1=1&!1=1&!1=1&!1=1&!1=1&!1=1?2", -1, "y:(1=1)&(1=1)|(1=1)&(1=1)|(1=1)&(1=1)|(1=1)?2", -1,
            "y:[1]+[2]+[3]+[4]+[5]+[6]+[7]+[8]", -1, "y:[[[[[[1]]]]]]+[[[[[[1]]]]]]", -1,
            "y:!!!!!!1=1&!!!!!!1=1|((((((1=1))))))?[[[[[[1]]]]]]", -1);
        faults(WANT, "[1]+[1]+[1]+[1]=[1]+[1]+[1]+[1]", -1);
    }

    private static void conditionsAndSums() {
        faults(LAW, "y:(1)", 4, "y:(1+2)=3?4", 6, "y:!1?2", 4, "y:!(1=1)=1?2", 8, "y:(1=1)=1?2", 7, "y:(1=1)+1?2", 7, "y:1?2", 3,
            "y:1=1?2?3", 7, "y:1=1?2=3", 7, "y:1=1?!2", 6, "y:1=1?(2)", 6, "y:[1=1]?2", 4, "y:1=1;", 5, "y:1=2=3?4", 5,
            "y:1=1&?2", 6, "y:1=1|?2", 6, "y:1=1&2?2", 7, "y:1=1|2|", 7, "y:1&2=2?3", 3, "y:1+?", 4, "y:1*?", 4, "y:1*=1?2", 4,
            "y:1/+1", 4, "y:1:2", 3, "y:1+2:3", 5, "y:[1:2]", 4, "y:[]", 3, "y:()", 3, "y:]", 2, "y:)", 2, "y:[1)", 4,
            "y:(1=1]", 6, "y:=1", 2, "y:?1", 2, "y:;", 2, ";", 0, "y:1;;", 4, "y:1,y:2", 3, "y:1y:2", 3, "yy:1", 1, "y;1", 1,
            "y 1", 2);
        faults(WANT, "(e)", 2, "(e+1)>2", 4, "e", 1, "e+n", 3, "1=1?", 3, "e>1;e>2", 3, "e>1,", 3, "y:e>1", 0, "e>1>2", 3,
            "e>>1", 2, "e=<1", 2, "!e", 2, "e!>1", 1, "e>!1", 2, "e>(1)", 2, "e&n>1", 1, "e>1&&n>1", 4, "e>1&?", 4, "e*>1", 2);
    }

    private static void lettersOfTheirSort() {
        for (char c = 1; c < 256; c++) {
            boolean digit = c >= '0' && c <= '9';
            boolean law = digit || "iwgtmak".indexOf(c) >= 0;
            boolean opens = c == '[' || c == ' ' || c == '!' || c == '(';
            faults(LAW, "y:" + c, law ? -1 : opens ? 3 : 2);
            boolean want = digit || "ervnht".indexOf(c) >= 0;
            faults(WANT, c + "=1", want ? -1 : opens ? 1 : 0);
            boolean item = "xkwglmapcejs".indexOf(c) >= 0;
            faults(DROP, c + "2", item ? -1 : c == ' ' ? 1 : 0);
        }
    }

    private static void blanksStandBetweenAll() {
        faults(LAW, " y : ! ( [ i ] + 2 * w = 3 & 4 < g | t > 5 ) ? m - a / [ k ] ; y : 1 ", -1, "y:1\t", 3, "y:1\n", 3,
            "y:1\u00a0", 3, "\ty:1", 0);
        faults(WANT, " ! ( e + 1 > [ r ] ) & v < 2 | n = h / t ", -1);
        faults(DROP, " x 1 , k 2 , w 3 ", -1, "x1 k2", 3, "x1, ,k2", 4);
    }

    private static void boundsOfDrops() {
        String letters = "xkwglmapcejs";
        int[] lowest = {0, 2, 1, 0, 0, 0, 0, 0, 1, 0, 1, 0};
        int[] highest = {22, 24, 999, 999, 999, 99, 99, 100, 99, 99, 9, 9};
        RingDrop low = new RingDrop();
        RingDrop high = new RingDrop();
        for (int what = 0; what < 12; what++) {
            String besides = what == 0 ? "k2," : "";
            same("lowest", Check.drop(low, besides + letters.charAt(what) + lowest[what]), what);
            same("lowest of " + letters.charAt(what), low.drop(what, what), lowest[what]);
            same("highest", Check.drop(high, besides + letters.charAt(what) + highest[what]), what);
            same("highest of " + letters.charAt(what), high.drop(what, what), highest[what]);
        }
        // Wrong at the last digit.
        faults(DROP, "x24", 2, "k1", 1, "k0", 1, "k25", 2, "w0", 1, "w1000", 4, "g1000", 4, "l1000", 4, "m100", 3, "a100", 3,
            "p101", 3, "c0", 1, "c100", 3, "e100", 3, "j0", 1, "j10", 2, "s10", 2, "x0024", 4, "k0001", 4, "w0000", 4, "j0000", 4,
            "g9999", 4, "s 99 ", 3, "c0,w5", 1, "w5,c0", 4);
        faults(DROP, "g5:", 2, "g5/", 2, "g:", 1, "g/", 1, "g5:6", 2, "s9999:", 4, "s9999/", 4, "s9999,", 4);
        // A fifth digit itself, whatever stands ahead of it.
        faults(DROP, "g10000", 5, "s99999", 5, "w00000", 5, "j00001", 5, "c 00001", 6, "w5,k00002", 8);
    }

    private static void aLetterOnceAtMost() {
        for (char c : "xkwglmapcejs".toCharArray()) {
            faults(DROP, c + "2," + c + "2", 3, c + "2," + (c == 'g' ? 'l' : 'g') + "1," + c, 6);
        }
        faults(DROP, "g5,g", 3, "g5,g9999", 3);
    }

    private static void placeAndWidthTogether() {
        faults(DROP, "x16", -1, "x17", 3, "x16,k8", -1, "x16,k9", 6, "k9,x16", 6, "x22,k2", -1, "x23,k2", 6, "x23", 3, "k24", -1,
            "k24,x0", -1, "k24,x1", 6, "x17,g5", 6, "x17,k7", -1, "x17,z", 4, "x17,k", 5, "x17 , k8  ", 10);
    }

    // ---- 5: text ----

    private static void numbersOfEachSort() {
        RingDrop r = new RingDrop();
        for (int n = 0; n < 4; n++) {
            same("law", law(r, "y:1"), n);
            same("the tape is empty then", r.count(4), 0);
            same("want", want(r, "e=1"), n);
            same("the tape is empty then", r.count(4), 0);
        }
        Check.feed(r, "y:1");
        same("a fifth law", r.text(LAW), -1);
        same("it stays", r.count(4), 3);
        same("and is a law", r.fault(LAW), -1);
        r.end(0);
        Check.feed(r, "e=1");
        same("a fifth want", r.text(WANT), -1);
        same("it stays", r.fault(WANT), -1);
        same("laws", r.count(0), 4);
        same("wants", r.count(1), 4);
    }

    private static void twelveDrops() {
        RingDrop r = new RingDrop();
        for (int n = 0; n < 12; n++) {
            same("drop", Check.drop(r, "g" + n), n);
        }
        Check.feed(r, "g99");
        same("a 13th", r.text(DROP), -1);
        same("it stays", r.count(4), 3);
        yes("there is no 13th", throwsNoSuch(r, 12, 3));
        same("the 12th is as it was", r.drop(11, 3), 11);
        same("drops", r.count(2), 12);
    }

    private static void refusedTextStays() {
        RingDrop r = new RingDrop();
        for (int sort = 0; sort < 3; sort++) {
            same("an empty tape", r.text(sort), -1);
        }
        Check.feed(r, "y:1");
        for (int sort : new int[] {WANT, DROP, 3, -1, Integer.MIN_VALUE, Integer.MAX_VALUE}) {
            same("text " + sort, r.text(sort), -1);
            same("it stays", r.count(4), 3);
        }
        same("at last", r.text(LAW), 0);
        same("no text is left", r.text(LAW), -1);
        same("one law", r.count(0), 1);
    }

    // ---- 6: drop ----

    private static void noSuchDrop() {
        RingDrop r = new RingDrop();
        yes("none at all", throwsNoSuch(r, 0, 0));
        Check.drop(r, "g5");
        no("the one", throwsNoSuch(r, 0, 0));
        no("its last", throwsNoSuch(r, 0, 11));
        yes("a second", throwsNoSuch(r, 1, 0));
        yes("a 13th of it", throwsNoSuch(r, 0, 12));
        for (int far : FAR) {
            yes("drop " + far, throwsNoSuch(r, far, 0));
            yes("what " + far, throwsNoSuch(r, 0, far));
        }
    }

    // ---- 7: pace; 45: count ----

    private static void paces() {
        RingDrop r = new RingDrop();
        for (int v : new int[] {0, 1, 98, 99}) {
            yes("pace " + v, r.pace(v));
            same("it is that", r.count(5), v);
        }
        for (int v : new int[] {-1, 100, Integer.MIN_VALUE, Integer.MAX_VALUE}) {
            no("pace " + v, r.pace(v));
            same("it stays", r.count(5), 99);
            same("no such count " + v, r.count(v), -1);
        }
        same("no such count", r.count(6), -1);
    }

    // ---- what a text is worth ----

    private static boolean holds(String want) {
        RingDrop r = new RingDrop();
        want(r, want);
        return r.met(0) == 1;
    }

    private static void hold(String... wants) {
        for (String want : wants) {
            yes(want, holds(want));
            no("!(" + want + ")", holds("!(" + want + ")"));
        }
    }

    private static void numbersStayWithinAMillion() {
        hold("1000*1000>999*1000+999", "1000*1000+1=1000*1000", "1000*1000-1<1000*1000", "1000*1000+1-1<1000*1000",
            "1001*1000=1000*1000", "9999*9999=1000*1000", "9999*9999*9999*9999=1000*1000", "9999*9999/1000=1000",
            "0-1000*1000-1=0-1000*1000", "0-1000*1000+1>0-1000*1000", "0-1000*1000-1+1>0-1000*1000", "[0-9999]*9999+1000*1000=0",
            "[0-9999]*9999*[0-9999]=1000*1000", "999*1000+999+1=1000*1000", "999*1000+999+1+1=1000*1000");
    }

    private static void divisionCutsTowardsZero() {
        hold("7/2=3", "[0-7]/2=0-3", "7/[0-2]=0-3", "[0-7]/[0-2]=3", "1/2=0", "[0-1]/2=0", "8/2/2=2", "7/2*2=6", "2*7/2=7",
            "999/1000=0", "1000/1000=1");
    }

    private static void divisionByZeroGivesZero() {
        hold("7/0=0", "0/0=0", "[0-7]/0=0", "7/[3-3]=0", "7/0+5=5", "5+7/0=5", "7/0/0=0", "7/e=0");
    }

    private static void orderOfSigns() {
        hold("9-4-3=2", "9-4+3=8", "2+3*4=14", "[2+3]*4=20", "20-8/4=18", "1=1|1=1&1=2", "!((1=1|1=1)&1=2)", "!(!1=2&1=2)",
            "!(1=2&1=2)", "!1=2|1=1", "!!!1=2", "1=2|1=2|1=1", "1=1&1=1&!1=2", "!1<1", "!1>1", "1<2", "2>1", "!1=2",
            "!2<1", "!1>2");
    }

    private static void goes(String law, int due) {
        RingDrop r = with(law, "k2,w200");
        r.start(0, 1, 0);
        r.tick(1);
        same("gone by " + law, r.about(6), due);
    }

    private static void theFirstClauseThatHolds() {
        goes("y:3", 6);
        goes("y:1=1?3;y:5", 6);
        goes("y:1=2?3;y:5", 10);
        goes("y:3;y:5", 6);
        goes("y:1=2?3", 0);
        goes("y:1=2?3;y:2=3?5", 0);
        goes("y:1=2?3;y:1=1?7;y:1=1?5", 14);
        goes("y:1=2?1;".repeat(19) + "y:5", 10);
        goes("y:1=1?1-1;y:5", 0);
    }

    private static void worthIsWithinTheWater() {
        goes("y:0-1", 0);
        goes("y:0", 0);
        goes("y:1", 2);
        goes("y:w-1", 198);
        goes("y:w", 200);
        goes("y:w+1", 200);
        goes("y:9999*9999", 200);
        goes("y:0-9999*9999", 0);
    }

    public static void main(String[] args) {
        aNewObjectIsItsOwn();
        highestByteFirst();
        feedOnlyZeros();
        feedTheTapeFull();
        endOfAll();
        faultLeavesTheTape();
        tooEarlyAnEndIsTheLength();
        aFullTapeIsNoFault();
        numbersHaveFourDigitsAtMost();
        sixWithinOneAnother();
        moreThanSixBesideOneAnother();
        conditionsAndSums();
        lettersOfTheirSort();
        blanksStandBetweenAll();
        boundsOfDrops();
        aLetterOnceAtMost();
        placeAndWidthTogether();
        numbersOfEachSort();
        twelveDrops();
        refusedTextStays();
        noSuchDrop();
        paces();
        numbersStayWithinAMillion();
        divisionCutsTowardsZero();
        divisionByZeroGivesZero();
        orderOfSigns();
        theFirstClauseThatHolds();
        worthIsWithinTheWater();
        finish("TextEdgeTest");
    }
}
