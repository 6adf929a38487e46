/** Promises 26 to 29: ways, chosen, sums, nearest. */
public final class SumsTest {
    private static final Check CHECK = new Check("SumsTest");

    public static void main(String[] args) {
        small();
        fewestThenLeast();
        greatest();
        behindChanges();
        eachFirst();
        refused();
        CHECK.end();
    }

    /** Sums of 3 5 8: 0 3 5 8 (twice) 11 13 16. */
    private static void small() {
        NumberHeaps x = Check.of("number 3,5,8;keep 0 in 1;apart 0 1");
        CHECK.fine("28", x.sums(), x, 7);
        int[] ways = {1, 0, 0, 1, 0, 1, 0, 0, 2, 0, 0, 1, 0, 1, 0, 0, 1, 0};
        int[] chosen = {0, -2, -2, 1, -2, 2, -2, -2, 4, -2, -2, 5, -2, 6, -2, -2, 7, -2};
        int[] nearest = {0, 0, 3, 3, 3, 5, 5, 8, 8, 8, 11, 11, 11, 13, 13, 16, 16, 16};
        for (int s = 0; s < 18; s++) {
            CHECK.fine("26 " + s, x.ways(s), x, ways[s]);
            CHECK.fine("27 " + s, x.chosen(s), x, chosen[s]);
            CHECK.fine("29 " + s, x.nearest(s), x, nearest[s]);
        }
        CHECK.fine("26 99,999", x.ways(99999), x, 0);
        CHECK.fine("27 99,999", x.chosen(99999), x, -2);
        CHECK.fine("29 99,999", x.nearest(99999), x, 16);
    }

    private static void fewestThenLeast() {
        // 6: {1, 2, 3} are NUMBERS 0 to 2, {3, 3} 2 and 3, {2, 4} 1 and 4, {6} 5
        NumberHeaps x = Check.of("number 1,2,3,3,4,6");
        CHECK.fine("27 one NUMBER", x.chosen(6), x, 32);
        CHECK.fine("27 of like ones the least number", x.chosen(3), x, 4);
        x.drop(5);
        CHECK.fine("27 two NUMBERS", x.chosen(6), x, 12);
        CHECK.fine("26", x.ways(6), x, 4);
        // {1, 2} is the lesser number, but {3} is of fewer NUMBERS
        CHECK.fine("27 fewest first", x.chosen(3), x, 4);
    }

    private static void greatest() {
        NumberHeaps x = Check.of("number 9999,9999,9999,9999,9999,9999,9999,9999,9999,9999");
        CHECK.fine("28", x.sums(), x, 11);
        CHECK.fine("26", x.ways(49995), x, 252);
        CHECK.fine("27", x.chosen(49995), x, 31);
        CHECK.fine("26 all", x.ways(99990), x, 1);
        CHECK.fine("27 all", x.chosen(99990), x, 1023);
        CHECK.fine("29 all", x.nearest(99999), x, 99990);
        NumberHeaps powers = Check.of("number 1,2,4,8,16,32,64,128,256,512");
        CHECK.fine("28 all unlike", powers.sums(), powers, 1024);
        for (int s = 0; s < 1024; s++) {
            CHECK.fine("27 the bits", powers.chosen(s), powers, s);
            CHECK.fine("26 one way", powers.ways(s), powers, 1);
        }
        NumberHeaps one = Check.of("number 6");
        CHECK.fine("28 one", one.sums(), one, 2);
        CHECK.fine("29 as near", one.nearest(3), one, 0);
        CHECK.fine("29 nearer", one.nearest(4), one, 6);
    }

    private static void behindChanges() {
        NumberHeaps x = Check.of("number 3,5");
        CHECK.fine("28", x.sums(), x, 4);
        x.add(2);
        CHECK.fine("28 behind add", x.sums(), x, 7);
        CHECK.fine("26 behind add", x.ways(5), x, 2);
        x.undo();
        CHECK.fine("28 behind undo", x.sums(), x, 4);
        x.sort();
        CHECK.fine("27 behind sort", x.chosen(5), x, 1);
    }

    /** Each call reckons for itself, whatever was asked ahead. */
    private static void eachFirst() {
        NumberHeaps w = Check.of("number 3,5,8");
        CHECK.fine("26 first of all", w.ways(8), w, 2);
        NumberHeaps c = Check.of("number 3,5,8");
        CHECK.fine("27 first of all", c.chosen(13), c, 6);
        NumberHeaps n = Check.of("number 3,5,8");
        CHECK.fine("29 first of all", n.nearest(14), n, 13);
    }

    private static void refused() {
        NumberHeaps none = new NumberHeaps();
        CHECK.refused("26 no TEXT", none.ways(-1), none, 1);
        CHECK.refused("27 no TEXT", none.chosen(-1), none, 1);
        CHECK.refused("28 no TEXT", none.sums(), none, 1);
        CHECK.refused("29 no TEXT", none.nearest(-1), none, 1);
        NumberHeaps x = Check.of("number 3,5,8");
        for (int s : new int[] {-1, 100000, Integer.MIN_VALUE, Integer.MAX_VALUE}) {
            CHECK.refused("26 s", x.ways(s), x, 2);
            CHECK.refused("27 s", x.chosen(s), x, 2);
            CHECK.refused("29 s", x.nearest(s), x, 2);
        }
    }
}
