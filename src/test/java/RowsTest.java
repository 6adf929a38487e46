/** Promises 19 to 25: bound, least, leastOf, flat, rows, climb, climbOf. */
public final class RowsTest {
    private static final Check CHECK = new Check("RowsTest");

    public static void main(String[] args) {
        bound();
        least();
        leastKeptApart();
        noneAllowed();
        flatIsNotLeast();
        likeNumbers();
        rows();
        climb();
        refused();
        CHECK.end();
    }

    private static void bound() {
        bound("number 5,4,3,3", 2, 8);
        bound("number 5,4,3,4", 2, 8);
        bound("number 9,1,1", 2, 9);
        bound("number 5,5,5", 2, 10);
        bound("number 7,6", 2, 7);
        bound("number 1,6,1,5,1,1,6", 3, 7);
        bound("number 4,6,5,6,4", 3, 9);
        bound("number 9,9,9,9,9", 4, 18);
        bound("number 9,9,9,9", 4, 9);
        bound("number 5;heaps 3;keep 0 in 2", 4, 5);
    }

    private static void bound(String text, int k, int due) {
        NumberHeaps x = Check.of(text);
        CHECK.fine("19 '" + text + "' by " + k, x.bound(k), x, due);
    }

    private static void least() {
        NumberHeaps x = Check.of("number 8,7,6,5,4");
        CHECK.fine("20 SPREAD", x.least(2, 0), x, 0);
        CHECK.fine("20 times", x.least(2, 1), x, 2);
        row(x, 2, 0, 0, 1, 1, 1);
        CHECK.fine("20 SPREAD", x.least(3, 0), x, 3);
        CHECK.fine("20 times", x.least(3, 1), x, 6);
        row(x, 3, 0, 1, 2, 2, 1);
        NumberHeaps one = Check.of("number 3");
        CHECK.fine("20 one", one.least(4, 0), one, 3);
        CHECK.fine("20 one, times", one.least(4, 1), one, 4);
        row(one, 4, 0);
        // each in a HEAP of its own, in 4 * 3 ways
        NumberHeaps two = Check.of("number 3,3");
        CHECK.fine("20 two in four", two.least(4, 0), two, 3);
        CHECK.fine("20 two in four, times", two.least(4, 1), two, 12);
        row(two, 4, 0, 1);
    }

    private static void leastKeptApart() {
        NumberHeaps x = Check.of("number 8,7,6,5,4;keep 0 in 1");
        CHECK.fine("20 kept", x.least(2, 0), x, 0);
        CHECK.fine("20 kept, times", x.least(2, 1), x, 1);
        row(x, 2, 1, 1, 0, 0, 0);
        x.apart(0, 1);
        // 8 and 6 against 7, 5 and 4; 8, 5 against 7, 6, 4 and 8, 4 against 7, 6, 5 are worse
        CHECK.fine("20 apart", x.least(2, 0), x, 2);
        CHECK.fine("20 apart, times", x.least(2, 1), x, 1);
        row(x, 2, 1, 0, 1, 0, 0);
        CHECK.fine("22 apart", x.flat(2), x, 16);
        CHECK.fine("23 apart", x.rows(2), x, 8);
        x.apart(0, 1);
        CHECK.fine("20 not apart any more", x.least(2, 0), x, 0);
        NumberHeaps y = Check.of("number 1,1,1;keep 2 in 0;apart 0 2");
        CHECK.fine("20 by three", y.least(3, 0), y, 0);
        CHECK.fine("20 by three, times", y.least(3, 1), y, 2);
        row(y, 3, 1, 2, 0);
    }

    private static void noneAllowed() {
        NumberHeaps x = Check.of("number 3,2,1;keep 0 in 2");
        none(x, 2);
        CHECK.fine("20 by three there are some", x.least(3, 0), x, 2);
        NumberHeaps y = Check.of("number 3,2,1;apart 0 1;apart 0 2;apart 1 2");
        none(y, 2);
        CHECK.fine("23 by three", y.rows(3), y, 6);
        NumberHeaps z = Check.of("number 3,2;keep 0 in 1;keep 1 in 1;apart 0 1;heaps 4");
        none(z, 2);
        none(z, 3);
        none(z, 4);
    }

    private static void none(NumberHeaps x, int k) {
        CHECK.fine("23 none by " + k, x.rows(k), x, 0);
        CHECK.refused("20 none", x.least(k, 0), x, 6);
        CHECK.refused("20 none", x.least(k, 1), x, 6);
        CHECK.refused("20 what first", x.least(k, 2), x, 1);
        CHECK.refused("21 none", x.leastOf(k, 0), x, 6);
        CHECK.refused("21 NUMBER first", x.leastOf(k, 9), x, 1);
        CHECK.refused("21 k ahead of none", x.leastOf(9, 0), x, 2);
        CHECK.refused("22 none", x.flat(k), x, 6);
    }

    /** 24+9, 16+13, 16+10 have the least SPREAD, but in 16+16, 13+10+9, 24 the greatest HEAP is less. */
    private static void flatIsNotLeast() {
        NumberHeaps x = Check.of("number 24,16,16,13,10,9");
        CHECK.fine("20 SPREAD", x.least(3, 0), x, 7);
        CHECK.fine("20 times", x.least(3, 1), x, 12);
        row(x, 3, 0, 1, 2, 1, 2, 0);
        CHECK.fine("22", x.flat(3), x, 32);
        // 4+4 (kept) | 4 | 1, and with the last two exchanged
        NumberHeaps z = Check.of("number 4,4,4,1;keep 0 in 0;keep 1 in 0");
        CHECK.fine("22 kept", z.flat(3), z, 8);
        CHECK.fine("20 kept", z.least(3, 0), z, 7);
        CHECK.fine("20 kept, times", z.least(3, 1), z, 2);
        NumberHeaps one = Check.of("number 10;keep 0 in 1");
        CHECK.fine("22 one", one.flat(2), one, 10);
    }

    private static void likeNumbers() {
        int[] values = {5, 5, 4, 4, 3, 3, 3};
        NumberHeaps x = Check.of("number 5,5,4,4,3,3,3");
        for (int k = 2; k <= 4; k++) {
            int spread = 99;
            int flat = 99;
            int times = 0;
            for (int code = 0; code < (int) Math.pow(k, 7); code++) {
                int[] sums = new int[k];
                int rest = code;
                for (int value : values) {
                    sums[rest % k] += value;
                    rest /= k;
                }
                java.util.Arrays.sort(sums);
                int s = sums[k - 1] - sums[0];
                flat = Math.min(flat, sums[k - 1]);
                times = s < spread ? 1 : s == spread ? times + 1 : times;
                spread = Math.min(spread, s);
            }
            CHECK.fine("20 SPREAD by " + k, x.least(k, 0), x, spread);
            CHECK.fine("20 times by " + k, x.least(k, 1), x, times);
            CHECK.fine("22 by " + k, x.flat(k), x, flat);
            CHECK.fine("23 by " + k, x.rows(k), x, (int) Math.pow(k, 7));
        }
    }

    private static void rows() {
        NumberHeaps x = Check.of("number 1,2,3,4,5,6,7,8,9,10");
        CHECK.fine("23", x.rows(2), x, 1024);
        CHECK.fine("23", x.rows(3), x, 59049);
        CHECK.fine("23", x.rows(4), x, 1048576);
        x.apart(3, 8);
        CHECK.fine("23 apart", x.rows(4), x, 786432);
        x.apart(3, 9);
        CHECK.fine("23 two apart", x.rows(4), x, 589824);
        x.apart(8, 9);
        CHECK.fine("23 three apart", x.rows(4), x, 16384 * 24);
        x.keepIn(8, 0);
        CHECK.fine("23 kept", x.rows(4), x, 16384 * 6);
        x.keepIn(0, 3);
        CHECK.fine("23 two kept", x.rows(4), x, 4096 * 6);
        CHECK.fine("23 by three none", x.rows(3), x, 0);
        CHECK.fine("23 by two none", x.rows(2), x, 0);
    }

    private static void climb() {
        // GREEDY: 8, 5 and 4 against 7 and 6; 8 and 6 are exchanged
        NumberHeaps x = Check.of("number 8,7,6,5,4;keep 0 in 0;apart 0 3");
        CHECK.fine("24", x.climb(2, 0), x, 0);
        CHECK.fine("24 changes", x.climb(2, 1), x, 1);
        int[] heaps = {1, 1, 0, 0, 0};
        for (int i = 0; i < 5; i++) {
            CHECK.fine("25 " + i, x.climbOf(2, i), x, heaps[i]);
        }
        NumberHeaps one = Check.of("number 9");
        CHECK.fine("24 one", one.climb(3, 0), one, 9);
        CHECK.fine("24 one, changes", one.climb(3, 1), one, 0);
        CHECK.fine("25 one", one.climbOf(3, 0), one, 0);
        // GREEDY: 10, 6, 5 against 9, 7, 1; 7 and 10 are exchanged, then 1 moves
        NumberHeaps z = Check.of("number 7,9,6,10,5,1");
        CHECK.fine("25 ahead of all else", z.climbOf(2, 0), z, 0);
        CHECK.fine("24 SPREAD", z.climb(2, 0), z, 0);
        CHECK.fine("24 an exchange and a move", z.climb(2, 1), z, 2);
        int[] moved = {0, 1, 0, 1, 0, 0};
        for (int i = 0; i < 6; i++) {
            CHECK.fine("25 " + i, z.climbOf(2, i), z, moved[i]);
        }
        // GREEDY: 6, 5 and 3 against 6 and 5; a 6 and a 5 are exchanged
        NumberHeaps y = Check.of("number 3,6,5,6,5");
        CHECK.fine("9", y.greedy(2, 0), y, 3);
        CHECK.fine("24", y.climb(2, 0), y, 1);
        CHECK.fine("24 changes", y.climb(2, 1), y, 1);
    }

    private static void refused() {
        NumberHeaps none = new NumberHeaps();
        CHECK.refused("19 no TEXT", none.bound(9), none, 1);
        CHECK.refused("20 no TEXT", none.least(9, 0), none, 1);
        CHECK.refused("21 no TEXT", none.leastOf(9, 0), none, 1);
        CHECK.refused("22 no TEXT", none.flat(9), none, 1);
        CHECK.refused("23 no TEXT", none.rows(9), none, 1);
        CHECK.refused("24 no TEXT", none.climb(9, 0), none, 1);
        CHECK.refused("25 no TEXT", none.climbOf(9, 0), none, 1);
        NumberHeaps x = Check.of("number 5,6");
        for (int k : new int[] {1, 5, 0, -1, Integer.MAX_VALUE, Integer.MIN_VALUE}) {
            CHECK.refused("19 k", x.bound(k), x, 2);
            CHECK.refused("20 k", x.least(k, 0), x, 2);
            CHECK.refused("21 k", x.leastOf(k, 0), x, 2);
            CHECK.refused("22 k", x.flat(k), x, 2);
            CHECK.refused("23 k", x.rows(k), x, 2);
            CHECK.refused("24 k", x.climb(k, 0), x, 2);
            CHECK.refused("25 k", x.climbOf(k, 0), x, 2);
            CHECK.refused("20 what ahead of k", x.least(k, 2), x, 1);
            CHECK.refused("21 NUMBER ahead of k", x.leastOf(k, 2), x, 1);
            CHECK.refused("24 what ahead of k", x.climb(k, -1), x, 1);
            CHECK.refused("25 NUMBER ahead of k", x.climbOf(k, -1), x, 1);
        }
        CHECK.refused("20 what", x.least(2, 2), x, 1);
        CHECK.refused("20 what", x.least(2, -1), x, 1);
        CHECK.refused("21 NUMBER", x.leastOf(2, 2), x, 1);
        CHECK.refused("24 what", x.climb(2, 2), x, 1);
        CHECK.refused("25 NUMBER", x.climbOf(2, 2), x, 1);
    }

    private static void row(NumberHeaps x, int k, int... heaps) {
        for (int i = 0; i < heaps.length; i++) {
            CHECK.fine("21 by " + k + ", " + i, x.leastOf(k, i), x, heaps[i]);
        }
    }
}
