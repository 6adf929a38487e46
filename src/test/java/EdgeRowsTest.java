/** The edges of all rows: promises 19 (bound) to 25 (climbOf). */
public final class EdgeRowsTest {
    private static final Check CHECK = new Check("EdgeRowsTest");

    private static final String ONES = "number 1,1,1,1,1,1,1,1,1,1";
    private static final String GREATEST = "number 9999,9999,9999,9999,9999,9999,9999,9999,9999,9999";

    public static void main(String[] args) {
        upwards();
        moreThanKNumbers();
        boundAtTheEdges();
        oneNumber();
        tenLikeNumbers();
        theGreatestNumbers();
        keptInTheLastHeapOrBeyond();
        allKept();
        apartInTooFewHeaps();
        keptTogetherButApart();
        noneIsAllowedIsNoRefusalOfRows();
        theFirstOfThese();
        flatIsNotOfTheRow();
        anew();
        noChange();
        movesAheadOfExchanges();
        theLesserNumber();
        theLesserHeap();
        theLesserOther();
        CHECK.end();
    }

    /** "TOTAL by k (upwards)": even, and one more. */
    private static void upwards() {
        bounds(ONES, 5, 4, 3);
        bounds("number 1,1,1,1,1,1,1,1,1", 5, 3, 3);
        bounds("number 1,1,1,1,1,1,1,1", 4, 3, 2);
    }

    /** "of more than k NUMBERS BY SIZE, the k-th and the one behind it together": k of them, one more. */
    private static void moreThanKNumbers() {
        bounds("number 5,5", 5, 5, 5);
        bounds("number 5,5,5", 10, 5, 5);
        bounds("number 5,5,5,5", 10, 10, 5);
        bounds("number 5,5,5,5,5", 13, 10, 10);
        // the 2nd and 3rd: 4, 3; the 3rd and 4th: 3, 2; the 4th and 5th: 2, 1
        bounds("number 1,2,3,4,5", 8, 5, 5);
        bounds("number 1,6,6,6,6", 13, 12, 7);
        bounds("number 9,8,3", 11, 9, 9);
        bounds("number 9,9,8,4", 17, 12, 9);
        bounds("number 5,8,9,9,9", 20, 17, 13);
    }

    /** The greatest NUMBER counts alone; the least and the greatest of all. */
    private static void boundAtTheEdges() {
        bounds("number 1", 1, 1, 1);
        bounds("number 9999", 9999, 9999, 9999);
        bounds("number 9,1,1", 9, 9, 9);
        bounds(GREATEST, 49995, 33330, 24998);
    }

    private static void bounds(String text, int... due) {
        NumberHeaps x = Check.of(text);
        for (int k = 2; k <= 4; k++) {
            CHECK.fine("19 '" + text + "' by " + k, x.bound(k), x, due[k - 2]);
        }
        CHECK.refused("19 k 1", x.bound(1), x, 2);
        CHECK.refused("19 k 5", x.bound(5), x, 2);
    }

    /** The fewest ROWS without anything kept: k of them, all of one SPREAD, as empty HEAPS count. */
    private static void oneNumber() {
        NumberHeaps x = CHECK.sound("number 7", 1);
        for (int k = 2; k <= 4; k++) {
            told(x, k, 7, k, 7, k, "0");
        }
        NumberHeaps two = CHECK.sound("number 7,3", 2);
        told(two, 2, 4, 2, 7, 4, "01");
        told(two, 3, 7, 6, 7, 9, "01");
        told(two, 4, 7, 12, 7, 16, "01");
    }

    /** The most ROWS: 10! / 5! 5!; 3 times 10! / 4! 3! 3!; 6 times 10! / 3! 3! 2! 2!. */
    private static void tenLikeNumbers() {
        NumberHeaps x = CHECK.sound(ONES, 10);
        told(x, 2, 0, 252, 5, 1024, "0000011111");
        told(x, 3, 1, 12600, 4, 59049, "0000111222");
        told(x, 4, 1, 151200, 3, 1048576, "0001112233");
    }

    private static void theGreatestNumbers() {
        NumberHeaps x = CHECK.sound(GREATEST, 10);
        told(x, 2, 0, 252, 49995, 1024, "0000011111");
        told(x, 3, 9999, 12600, 39996, 59049, "0000111222");
        told(x, 4, 9999, 151200, 29997, 1048576, "0001112233");
    }

    /** "each NUMBER kept lies in its HEAP", "of k HEAPS: below k": kept in the last one, in the one behind it. */
    private static void keptInTheLastHeapOrBeyond() {
        for (int h = 0; h <= 3; h++) {
            NumberHeaps x = CHECK.sound("number 5,3;keep 1 in " + h, 2);
            for (int k = 2; k <= 4; k++) {
                if (h >= k) {
                    none(x, k);
                } else {
                    told(x, k, k == 2 ? 2 : 5, k - 1, 5, k, (h == 0 ? "1" : "0") + h);
                }
            }
        }
    }

    /** One ROW alone is ALLOWED, be it ever so uneven. */
    private static void allKept() {
        StringBuilder text = new StringBuilder(ONES);
        for (int i = 0; i < 10; i++) {
            text.append(";keep").append(i).append("in1");
        }
        NumberHeaps x = CHECK.sound(text.toString(), 10);
        for (int k = 2; k <= 4; k++) {
            told(x, k, 10, 1, 10, 1, "1111111111");
        }
    }

    /** "those told apart lie apart": as many as HEAPS, one more. */
    private static void apartInTooFewHeaps() {
        NumberHeaps two = CHECK.sound("number 1,2;apart 0 1", 2);
        told(two, 2, 1, 2, 2, 2, "01");
        NumberHeaps three = CHECK.sound("number 1,2,3;apart 0 1;apart 1 2;apart 2 0", 3);
        none(three, 2);
        told(three, 3, 2, 6, 3, 6, "012");
        told(three, 4, 3, 24, 3, 24, "012");
        NumberHeaps four = CHECK.sound("number 1,2,3,4;apart 0 1;apart 0 2;apart 0 3;apart 1 2;apart 1 3;apart 2 3", 4);
        none(four, 2);
        none(four, 3);
        told(four, 4, 3, 24, 4, 24, "0123");
    }

    private static void keptTogetherButApart() {
        NumberHeaps x = CHECK.sound("number 1,2;keep 0 in 0;keep 1 in 0;apart 0 1", 2);
        for (int k = 2; k <= 4; k++) {
            none(x, k);
        }
        x.keepIn(1, 1);
        told(x, 2, 1, 1, 2, 1, "01");
    }

    /** "6 (no ROW is ALLOWED)", which rows tells as 0; behind the ACT's undoing there are some again. */
    private static void noneIsAllowedIsNoRefusalOfRows() {
        NumberHeaps x = CHECK.sound("number 4,2", 2);
        told(x, 2, 2, 2, 4, 4, "01");
        x.keepIn(0, 2);
        none(x, 2);
        CHECK.refused("40 none", x.write(), x, 6);
        x.undo();
        told(x, 2, 2, 2, 4, 4, "01");
    }

    /** "THE ROW: the first of these", compared "NUMBER by NUMBER, the lesser HEAP first". */
    private static void theFirstOfThese() {
        told(CHECK.sound("number 1,1,1,1", 4), 2, 0, 6, 2, 16, "0011");
        told(CHECK.sound("number 1,2,3", 3), 2, 0, 2, 3, 8, "001");
        told(CHECK.sound("number 3,2,1", 3), 2, 0, 2, 3, 8, "011");
        // NUMBER 2 is kept in HEAP 0: what lies first in HEAP 0 else lies in HEAP 1
        told(CHECK.sound("number 1,2,3;keep 2 in 0", 3), 2, 0, 1, 3, 4, "110");
        // a later NUMBER kept in HEAP 2 of 3: NUMBER 0 still begins with the least HEAP
        told(CHECK.sound("number 1,1,1;keep 2 in 2", 3), 3, 0, 2, 1, 9, "012");
        told(CHECK.sound("number 1,1,1;keep 2 in 0", 3), 3, 0, 2, 1, 9, "120");
        told(CHECK.sound("number 1,1,1;keep 2 in 1", 3), 3, 0, 2, 1, 9, "021");
    }

    /** FLAT is the least of all ROWS, not that of THE ROW: 24+9, 16+13, 16+10 has SPREAD 7; 16+16, 13+10+9, 24: 32. */
    private static void flatIsNotOfTheRow() {
        told(CHECK.sound("number 24,16,16,13,10,9", 6), 3, 7, 12, 32, 729, "012120");
    }

    /** What rows there were ahead of an ACT, undo, BACK or a TEXT counts no more. */
    private static void anew() {
        NumberHeaps x = CHECK.sound("number 3,2,1", 3);
        told(x, 2, 0, 2, 3, 8, "011");
        x.image(0);
        CHECK.fine("30", x.add(6), x, 4);
        told(x, 2, 0, 2, 6, 16, "0001");
        x.undo();
        told(x, 2, 0, 2, 3, 8, "011");
        x.become(2, 3);
        told(x, 2, 2, 4, 5, 8, "001");
        x.sort();
        told(x, 2, 2, 4, 5, 8, "010");
        x.back(0);
        told(x, 2, 0, 2, 3, 8, "011");
        x.apart(1, 2);
        told(x, 2, 2, 2, 4, 4, "010");
        x.keepIn(0, 1);
        told(x, 2, 2, 1, 4, 2, "101");
        x.drop(1);
        told(x, 2, 2, 1, 3, 2, "10");
        Check.text(x, "number 9");
        told(x, 2, 9, 2, 9, 2, "0");
    }

    /** "as long as it becomes less": none does, though some leave it as it is. */
    private static void noChange() {
        climbs("number 7", 4, 7, 0, "0");
        climbs("number 4,9", 4, 9, 0, "10");
        climbs("number 4,9", 2, 5, 0, "10");
        climbs("number 2,2,2", 2, 2, 0, "010");
        climbs("number 2,2,2,2", 2, 0, 0, "0101");
        climbs(ONES, 4, 1, 0, "0123012301");
    }

    /**
     * "of like ones moves ahead of exchanges, then the lesser NUMBER": 9 and 12 are exchanged (35, 33); then a 1 moves,
     * the first of two, though 8 and 9 could be exchanged.
     */
    private static void movesAheadOfExchanges() {
        climbs("number 12,9,1,9,8,12,7,1,9", 2, 0, 2, "011110100");
        climbs("number 1,12,9,9,8,12,7,1,9", 2, 0, 2, "101110100");
    }

    /** 6, 3, 3 against 5, 4: 4 and 6 are exchanged, not 5 and 6. */
    private static void theLesserNumber() {
        climbs("number 4,3,5,6,3", 2, 1, 1, "00110");
    }

    /** 12 and 17 are exchanged (40, 43, 40); then the 1 moves to HEAP 0, not to HEAP 2. */
    private static void theLesserHeap() {
        climbs("number 30,1,12,10,17,18,25,10", 3, 2, 2, "00201212");
    }

    /** 5, 3, 2 against 4, 4: the 5 is exchanged with the first 4. */
    private static void theLesserOther() {
        climbs("number 5,2,4,3,4", 2, 0, 1, "10001");
        climbs("number 2,5,4,3,4", 2, 0, 1, "01001");
    }

    private static void climbs(String text, int k, int spread, int changes, String heaps) {
        NumberHeaps x = CHECK.sound(text, heaps.length());
        CHECK.fine("24 '" + text + "' SPREAD", x.climb(k, 0), x, spread);
        CHECK.fine("24 '" + text + "' changes", x.climb(k, 1), x, changes);
        for (int i = 0; i < heaps.length(); i++) {
            CHECK.fine("25 '" + text + "' " + i, x.climbOf(k, i), x, heaps.charAt(i) - '0');
        }
        CHECK.refused("24 what 2", x.climb(k, 2), x, 1);
        CHECK.refused("24 what -1", x.climb(k, -1), x, 1);
        CHECK.refused("25 no NUMBER", x.climbOf(k, heaps.length()), x, 1);
        CHECK.refused("25 no NUMBER", x.climbOf(k, -1), x, 1);
        CHECK.refused("24 k 1", x.climb(1, 0), x, 2);
        CHECK.refused("25 k 5", x.climbOf(5, 0), x, 2);
    }

    /** No ROW is ALLOWED: 6, but k and what are told ahead of it. */
    private static void none(NumberHeaps x, int k) {
        CHECK.fine("23 none by " + k, x.rows(k), x, 0);
        CHECK.refused("20 none by " + k, x.least(k, 0), x, 6);
        CHECK.refused("20 none by " + k, x.least(k, 1), x, 6);
        CHECK.refused("21 none by " + k, x.leastOf(k, 0), x, 6);
        CHECK.refused("22 none by " + k, x.flat(k), x, 6);
        CHECK.refused("20 what ahead of 6", x.least(k, 2), x, 1);
        CHECK.refused("21 NUMBER ahead of 6", x.leastOf(k, x.about(0)), x, 1);
        CHECK.refused("20 k ahead of 6", x.least(5, 0), x, 2);
        CHECK.refused("21 k ahead of 6", x.leastOf(1, 0), x, 2);
        CHECK.refused("22 k ahead of 6", x.flat(5), x, 2);
        CHECK.refused("23 k", x.rows(1), x, 2);
    }

    private static void told(NumberHeaps x, int k, int spread, int times, int flat, int rows, String row) {
        CHECK.fine("20 SPREAD by " + k, x.least(k, 0), x, spread);
        CHECK.fine("20 how many by " + k, x.least(k, 1), x, times);
        CHECK.fine("22 by " + k, x.flat(k), x, flat);
        CHECK.fine("23 by " + k, x.rows(k), x, rows);
        for (int i = 0; i < row.length(); i++) {
            CHECK.fine("21 by " + k + ", " + i, x.leastOf(k, i), x, row.charAt(i) - '0');
        }
    }
}
