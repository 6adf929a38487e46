/** The edges of sums: promises 26 (ways), 27 (chosen), 28 (sums) and 29 (nearest). */
public final class EdgeSumsTest {
    private static final Check CHECK = new Check("EdgeSumsTest");

    private static final String LIKE = "number 9999,9999,9999,9999,9999,9999,9999,9999,9999,9999";
    private static final String POWERS = "number 1,2,4,8,16,32,64,128,256,512";

    public static void main(String[] args) {
        leastAndGreatestS();
        beyondS();
        theEmptySet();
        allNumbers();
        noSuchSum();
        fewestThenLeast();
        howManySums();
        asNearTheLesser();
        anew();
        CHECK.end();
    }

    /** "s (0 .. 99,999)". */
    private static void leastAndGreatestS() {
        NumberHeaps x = CHECK.sound("number 3,5", 2);
        told(x, 0, 1, 0, 0);
        told(x, 99999, 0, -2, 8);
        NumberHeaps like = CHECK.sound(LIKE, 10);
        told(like, 99989, 0, -2, 99990);
        told(like, 99990, 1, 1023, 99990);
        told(like, 99991, 0, -2, 99990);
        told(like, 99999, 0, -2, 99990);
    }

    /** "NONE: 1 (no TEXT); 2". */
    private static void beyondS() {
        NumberHeaps none = new NumberHeaps();
        NumberHeaps x = CHECK.sound("number 3,5", 2);
        for (int s : new int[] {-1, 100000, Integer.MIN_VALUE, Integer.MAX_VALUE}) {
            CHECK.refused("26 s " + s, x.ways(s), x, 2);
            CHECK.refused("27 s " + s, x.chosen(s), x, 2);
            CHECK.refused("29 s " + s, x.nearest(s), x, 2);
            CHECK.refused("26 no TEXT first", none.ways(s), none, 1);
            CHECK.refused("27 no TEXT first", none.chosen(s), none, 1);
            CHECK.refused("29 no TEXT first", none.nearest(s), none, 1);
        }
        CHECK.refused("28 no TEXT", none.sums(), none, 1);
    }

    /** "(0 by none, too)": no NUMBER comes to 0 in one way. */
    private static void theEmptySet() {
        NumberHeaps x = CHECK.sound("number 1", 1);
        told(x, 0, 1, 0, 0);
        told(x, 1, 1, 1, 1);
        told(x, 2, 0, -2, 1);
        CHECK.fine("28 one NUMBER", x.sums(), x, 2);
    }

    private static void allNumbers() {
        NumberHeaps x = CHECK.sound(POWERS, 10);
        told(x, 1022, 1, 1022, 1022);
        told(x, 1023, 1, 1023, 1023);
        told(x, 1024, 0, -2, 1023);
        told(x, 511, 1, 511, 511);
        told(x, 512, 1, 512, 512);
    }

    /** "-2: none", which is no refusal. */
    private static void noSuchSum() {
        NumberHeaps x = CHECK.sound("number 3,5", 2);
        int[] ways = {1, 0, 0, 1, 0, 1, 0, 0, 1, 0};
        int[] chosen = {0, -2, -2, 1, -2, 2, -2, -2, 3, -2};
        int[] nearest = {0, 0, 3, 3, 3, 5, 5, 8, 8, 8};
        for (int s = 0; s < 10; s++) {
            told(x, s, ways[s], chosen[s], nearest[s]);
        }
    }

    /** "of fewest NUMBERS, then the least number". */
    private static void fewestThenLeast() {
        // 3: {0, 1} is the lesser number, {2} of fewer NUMBERS
        told(CHECK.sound("number 1,2,3", 3), 3, 2, 4, 3);
        told(CHECK.sound("number 3,1,2", 3), 3, 2, 1, 3);
        // 4: each two of four
        told(CHECK.sound("number 2,2,2,2", 4), 4, 6, 3, 4);
        // 5: 1 and 4 are NUMBERS 0 and 3, 2 and 3 are 1 and 2
        told(CHECK.sound("number 1,2,3,4", 4), 5, 2, 6, 5);
        told(CHECK.sound("number 2,1,4,3", 4), 5, 2, 6, 5);
        told(CHECK.sound("number 2,3,1,4", 4), 5, 2, 3, 5);
        told(CHECK.sound(LIKE, 10), 49995, 252, 31, 49995);
        told(CHECK.sound(LIKE, 10), 9999, 10, 1, 9999);
    }

    /** All sums like where they can be, all unlike where they can be. */
    private static void howManySums() {
        int[] due = {2, 3, 4, 5, 6, 7, 8, 9, 10, 11};
        NumberHeaps like = CHECK.sound("number 4", 1);
        NumberHeaps powers = CHECK.sound("number 1", 1);
        for (int n = 1; n <= 10; n++) {
            CHECK.fine("28 " + n + " like ones", like.sums(), like, due[n - 1]);
            CHECK.fine("28 " + n + " powers of two", powers.sums(), powers, 1 << n);
            like.add(4);
            powers.add(1 << n);
        }
        NumberHeaps greatest = CHECK.sound(LIKE, 10);
        CHECK.fine("28 the greatest", greatest.sums(), greatest, 11);
    }

    /** "of two as near the lesser": half way, one below, one above. */
    private static void asNearTheLesser() {
        NumberHeaps x = CHECK.sound("number 10,30", 2);
        int[] s = {0, 4, 5, 6, 10, 19, 20, 21, 30, 34, 35, 36, 40, 41};
        int[] due = {0, 0, 0, 10, 10, 10, 10, 30, 30, 30, 30, 40, 40, 40};
        for (int j = 0; j < s.length; j++) {
            CHECK.fine("29 " + s[j], x.nearest(s[j]), x, due[j]);
        }
        NumberHeaps one = CHECK.sound("number 9999", 1);
        CHECK.fine("29 not half way", one.nearest(4999), one, 0);
        CHECK.fine("29 more than half way", one.nearest(5000), one, 9999);
    }

    /** What sets had ahead of an ACT, undo, BACK or a TEXT counts no more. */
    private static void anew() {
        NumberHeaps x = CHECK.sound("number 3,5", 2);
        told(x, 8, 1, 3, 8);
        x.image(1);
        x.drop(0);
        told(x, 8, 0, -2, 5);
        x.undo();
        told(x, 8, 1, 3, 8);
        x.become(1, 6);
        told(x, 8, 0, -2, 9);
        x.back(1);
        told(x, 8, 1, 3, 8);
        x.sort();
        told(x, 5, 1, 1, 5);
        Check.text(x, "number 4,4");
        told(x, 8, 1, 3, 8);
        CHECK.fine("28", x.sums(), x, 3);
    }

    private static void told(NumberHeaps x, int s, int ways, int chosen, int nearest) {
        CHECK.fine("26 " + s, x.ways(s), x, ways);
        CHECK.fine("27 " + s, x.chosen(s), x, chosen);
        CHECK.fine("29 " + s, x.nearest(s), x, nearest);
    }
}
