/** What the tests share: counting wrong answers, putting texts on the tape, looking at a row of cells. */
abstract class Check {
    private static int wrong = 0;
    private static int asked = 0;

    static void same(String call, long got, long due) {
        asked++;
        if (got != due) {
            wrong++;
            if (wrong <= 40) {
                System.out.println(call + " answered " + got + ", due is " + due);
            }
        }
    }

    static void yes(String call, boolean got) {
        same(call, got ? 1 : 0, 1);
    }

    static void no(String call, boolean got) {
        same(call, got ? 1 : 0, 0);
    }

    /** Puts a text (characters 1 to 255) behind what the tape has: the last answer of feed(). */
    static int feed(RingDrop r, String text) {
        int answer = 0;
        for (int from = 0; from < text.length(); from += 20) {
            int[] five = new int[5];
            for (int i = from; i < from + 20 && i < text.length(); i++) {
                five[(i - from) / 4] |= (text.charAt(i) & 255) << 24 - (i - from) % 4 * 8;
            }
            answer = r.feed(five[0], five[1], five[2], five[3], five[4]);
        }
        return answer;
    }

    private static int keep(RingDrop r, String text, int sort) {
        r.end(0);
        feed(r, text);
        int number = r.text(sort);
        if (number < 0) {
            wrong++;
            System.out.println("refused: " + text);
        }
        return number;
    }

    static int law(RingDrop r, String text) {
        return keep(r, text, 0);
    }

    static int want(RingDrop r, String text) {
        return keep(r, text, 1);
    }

    static int drop(RingDrop r, String text) {
        return keep(r, text, 2);
    }

    /** The fault of a text alone on the tape; the tape is empty afterwards. */
    static int fault(RingDrop r, String text, int sort) {
        r.end(0);
        feed(r, text);
        int at = r.fault(sort);
        r.end(0);
        return at;
    }

    static boolean throwsNoSuch(RingDrop r, int drop, int what) {
        try {
            r.drop(drop, what);
            return false;
        } catch (java.util.NoSuchElementException e) {
            return true;
        }
    }

    /** A new object with a law and some drops. */
    static RingDrop with(String law, String... drops) {
        RingDrop r = new RingDrop();
        law(r, law);
        for (String drop : drops) {
            drop(r, drop);
        }
        return r;
    }

    static void water(RingDrop r, int from, int... due) {
        for (int i = 0; i < due.length; i++) {
            same("water " + (from + i), r.water(from + i), due[i]);
        }
    }

    static void flow(RingDrop r, int from, int... due) {
        for (int i = 0; i < due.length; i++) {
            same("flow " + (from + i), r.flow(from + i), due[i]);
        }
    }

    static void free(RingDrop r, int from, int sort, int... due) {
        for (int i = 0; i < due.length; i++) {
            same("free " + (from + i) + " of " + sort, r.free(from + i, sort), due[i]);
        }
    }

    static void lies(RingDrop r, int from, int sort, int... due) {
        for (int i = 0; i < due.length; i++) {
            same("lies " + (from + i) + " of " + sort, r.lies(from + i, sort), due[i]);
        }
    }

    /** The first seed from 0 on whose draws of 4 begin so. */
    static long seedFor(int... draws) {
        for (long seed = 0; ; seed++) {
            if (java.util.Arrays.equals(draws(seed, draws.length), draws)) {
                return seed;
            }
        }
    }

    /** The first draws of 4 from a seed. */
    static int[] draws(long seed, int many) {
        int[] drawn = new int[many];
        long x = seed;
        for (int n = 0; n < many; n++) {
            x = x * 6364136223846793005L + 1442695040888963407L;
            drawn[n] = (int) (x >>> 33 & 3);
        }
        return drawn;
    }

    static void finish(String name) {
        System.out.println(name + ": " + asked + " answers, " + wrong + " wrong");
        if (wrong != 0) {
            System.exit(1);
        }
    }
}
