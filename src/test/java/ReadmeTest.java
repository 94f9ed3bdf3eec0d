/** What README.md says of its examples. */
public final class ReadmeTest extends Check {
    private static void aDropThatDries() {
        RingDrop r = new RingDrop();
        same("the law's bytes", r.feed(0x793A3130, 0, 0, 0, 0), 4);
        int law = r.text(0);
        same("law", law, 0);
        same("the want's bytes", r.feed(0x6E3E3300, 0, 0, 0, 0), 3);
        int want = r.text(1);
        same("want", want, 0);
        same("the drop's bytes", r.feed(0x6B322C77, 0x3130302C, 0x6C313000, 0, 0), 11);
        int drop = r.text(2);
        same("drop", drop, 0);
        same("start", r.start(law, 1 << drop, 7L), 1);
        same("tick", r.tick(60), 5);
        same("about", r.about(0), 100);
        same("met", r.met(want), 1);
        same("least", r.least(law, drop, 4, want, 7L, 60), 4);
        int stain = r.stain();
        same("stain", stain, 0);
        same("print", r.print(stain), 10);
        same("read", r.read(stain, law, 1 << drop, 7L, 60, 0), 1);
    }

    /** 30 40 30 of water: an end cell loses 30 / 4 + 1, the other 2. */
    private static void theLawOfTheTable() {
        RingDrop r = with("y:i=0?w/4+1;y:2", "k3,w100");
        r.start(0, 1, 0);
        r.tick(1);
        same("water that went off", r.about(6), 8 + 2 + 8);
    }

    private static void theWantOfTheTable() {
        RingDrop r = with("y:w", "k2,w9,l4", "x4,k2,w9,l3", "x8,k4,w9,l4", "x12,k8,w9,l8");
        want(r, "e>49&!(n<4)");
        int[] due = {1, 0, 1, 0};
        for (int d = 0; d < 4; d++) {
            r.start(0, 1 << d, 0);
            r.tick(1);
            same("met by what is left of drop " + d, r.met(0), due[d]);
        }
    }

    private static void theDropOfTheTable() {
        RingDrop r = new RingDrop();
        drop(r, "x5,k7,w300,g40,l3,m60");
        int[] due = {5, 7, 300, 40, 3, 60, 0, 0, 5, 0, 1, 0};
        for (int what = 0; what < due.length; what++) {
            same("drop of " + what, r.drop(0, what), due[what]);
        }
    }

    public static void main(String[] args) {
        aDropThatDries();
        theLawOfTheTable();
        theWantOfTheTable();
        theDropOfTheTable();
        finish("ReadmeTest");
    }
}
