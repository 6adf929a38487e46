/** The edges of what is told, filled and differenced: promises 6 (about) to 15 (multiOf). */
public final class EdgeFilledTest {
    private static final Check CHECK = new Check("EdgeFilledTest");

    private static final String LIKE = "number 9999,9999,9999,9999,9999,9999,9999,9999,9999,9999";
    private static final String POWERS = "number 1,2,4,8,16,32,64,128,256,512";

    public static void main(String[] args) {
        aboutTheFewest();
        aboutTheMost();
        aboutWhatIsNotThere();
        numberAtTheEdges();
        keptInNone();
        bySizeOfLikeOnes();
        sizedAtTheEdges();
        emptyHeapsCount();
        greedyOfLikeSums();
        greedyAtTheGreatest();
        differenceOfOne();
        differenceOfTwo();
        differenceOfLikeValues();
        leastPlaceOfBothSides();
        theSideOfNumberZero();
        stepsOfTen();
        multiOfFewerThanHeaps();
        multiOfLikeParts();
        multiOfLikeWidths();
        multiOfTen();
        keepAndApartAside();
        CHECK.end();
    }

    /** One NUMBER, nothing kept, apart, done. */
    private static void aboutTheFewest() {
        about(CHECK.sound("number 7", 1), 1, 2, 7, 0, 0, 0, 7, 7);
        about(CHECK.sound("number 1", 1), 1, 2, 1, 0, 0, 0, 1, 1);
        // one greatest, one least
        about(CHECK.sound("number 5,9,1", 3), 3, 2, 15, 0, 0, 0, 9, 1);
    }

    /** As many of all as there may be. */
    private static void aboutTheMost() {
        StringBuilder text = new StringBuilder(LIKE).append(";heaps 4");
        for (int i = 0; i < 10; i++) {
            text.append(";keep").append(i).append("in").append(i % 4);
        }
        for (int j = 1; j <= 6; j++) {
            text.append(";apart0 ").append(j);
        }
        NumberHeaps x = CHECK.sound(text.toString(), 10);
        about(x, 10, 4, 99990, 10, 6, 0, 9999, 9999);
        for (int act = 0; act < 12; act++) {
            x.become(9, 1);
        }
        about(x, 10, 4, 89992, 10, 6, 10, 9999, 1);
    }

    private static void about(NumberHeaps x, int... due) {
        for (int what = 0; what < 8; what++) {
            CHECK.fine("6 what " + what, x.about(what), x, due[what]);
        }
    }

    /** "NONE: 1 (no TEXT, what)". */
    private static void aboutWhatIsNotThere() {
        NumberHeaps x = CHECK.sound("number 7", 1);
        CHECK.refused("6 what -1", x.about(-1), x, 1);
        CHECK.refused("6 what 8", x.about(8), x, 1);
        NumberHeaps none = new NumberHeaps();
        for (int what = -1; what <= 8; what++) {
            CHECK.refused("6 no TEXT", none.about(what), none, 1);
        }
    }

    /** The first and the last NUMBER, and those beside them; the first and the last what. */
    private static void numberAtTheEdges() {
        NumberHeaps x = CHECK.sound(POWERS + ";keep 9 in 3;keep 0 in 0;apart 0 9;apart 9 8;apart 9 7;apart 9 6"
            + ";apart 9 5;apart 9 4", 10);
        int[] first = {1, 9, 0, 512};
        int[] last = {512, 0, 3, 1 + 16 + 32 + 64 + 128 + 256};
        for (int what = 0; what < 4; what++) {
            CHECK.fine("7 the first, what " + what, x.number(0, what), x, first[what]);
            CHECK.fine("7 the last, what " + what, x.number(9, what), x, last[what]);
        }
        CHECK.refused("7 no NUMBER", x.number(-1, 0), x, 1);
        CHECK.refused("7 no NUMBER", x.number(10, 0), x, 1);
        CHECK.refused("7 what", x.number(0, -1), x, 1);
        CHECK.refused("7 what", x.number(0, 4), x, 1);
        x.drop(9);
        CHECK.refused("7 dropped", x.number(9, 0), x, 1);
        CHECK.fine("7 now the last", x.number(8, 3), x, 0);
        x.add(5);
        CHECK.fine("7 there again", x.number(9, 0), x, 5);
    }

    /** "(-2: none)", which is no refusal. */
    private static void keptInNone() {
        NumberHeaps x = CHECK.sound("number 7,7;keep 1 in 0", 2);
        CHECK.fine("7 kept in none", x.number(0, 2), x, -2);
        CHECK.fine("7 kept in HEAP 0", x.number(1, 2), x, 0);
        CHECK.fine("7 apart from none", x.number(0, 3), x, 0);
    }

    /** "of like ones that of the lesser place": all like; two like ones among others. */
    private static void bySizeOfLikeOnes() {
        NumberHeaps like = CHECK.sound(LIKE, 10);
        for (int j = 0; j < 10; j++) {
            CHECK.fine("8 like", like.sized(j), like, j);
            CHECK.fine("7 like", like.number(j, 1), like, j);
        }
        NumberHeaps x = CHECK.sound("number 3,9,3,9", 4);
        int[] sized = {1, 3, 0, 2};
        for (int j = 0; j < 4; j++) {
            CHECK.fine("8 two like", x.sized(j), x, sized[j]);
            CHECK.fine("7 two like", x.number(sized[j], 1), x, j);
        }
    }

    private static void sizedAtTheEdges() {
        NumberHeaps x = CHECK.sound(POWERS, 10);
        CHECK.fine("8 the greatest", x.sized(0), x, 9);
        CHECK.fine("8 the least", x.sized(9), x, 0);
        CHECK.refused("8 j -1", x.sized(-1), x, 1);
        CHECK.refused("8 j 10", x.sized(10), x, 1);
        NumberHeaps one = CHECK.sound("number 7", 1);
        CHECK.fine("8 the only one", one.sized(0), one, 0);
        CHECK.refused("8 j 1", one.sized(1), one, 1);
    }

    /** "(of all k, empty ones, too)": with fewer NUMBERS than HEAPS the least sum is 0. */
    private static void emptyHeapsCount() {
        NumberHeaps x = CHECK.sound("number 4,9,6", 3);
        int[] spreads = {1, 5, 9};
        int[] greatest = {10, 9, 9};
        for (int k = 2; k <= 4; k++) {
            CHECK.fine("9 SPREAD by " + k, x.greedy(k, 0), x, spreads[k - 2]);
            CHECK.fine("9 greatest by " + k, x.greedy(k, 1), x, greatest[k - 2]);
        }
        NumberHeaps one = CHECK.sound("number 7", 1);
        for (int k = 2; k <= 4; k++) {
            CHECK.fine("9 SPREAD of one", one.greedy(k, 0), one, 7);
            CHECK.fine("10 HEAP of one", one.greedyOf(k, 0), one, 0);
        }
    }

    /** "of the least sum so far, of like ones the lesser HEAP". */
    private static void greedyOfLikeSums() {
        NumberHeaps x = CHECK.sound("number 5,5,5,5,5", 5);
        String[] heaps = {"01010", "01201", "01230"};
        for (int k = 2; k <= 4; k++) {
            for (int i = 0; i < 5; i++) {
                CHECK.fine("10 by " + k, x.greedyOf(k, i), x, heaps[k - 2].charAt(i) - '0');
            }
        }
    }

    private static void greedyAtTheGreatest() {
        NumberHeaps x = CHECK.sound(LIKE, 10);
        CHECK.fine("9 SPREAD by 2", x.greedy(2, 0), x, 0);
        CHECK.fine("9 greatest by 2", x.greedy(2, 1), x, 49995);
        CHECK.fine("9 SPREAD by 4", x.greedy(4, 0), x, 9999);
        CHECK.fine("9 greatest by 4", x.greedy(4, 1), x, 29997);
        CHECK.fine("10 the last by 3", x.greedyOf(3, 9), x, 0);
    }

    /** "As long as there are two": of one NUMBER there is no step. */
    private static void differenceOfOne() {
        NumberHeaps x = CHECK.sound("number 9999", 1);
        CHECK.fine("11 one", x.difference(), x, 9999);
        CHECK.fine("12 one", x.differenceOf(0), x, 0);
        CHECK.refused("12 no second", x.differenceOf(1), x, 1);
        CHECK.refused("13 no step", x.step(0, 0), x, 1);
        CHECK.refused("13 no step", x.step(0, 1), x, 1);
    }

    private static void differenceOfTwo() {
        NumberHeaps x = CHECK.sound("number 1,9999", 2);
        CHECK.fine("11 two", x.difference(), x, 9998);
        CHECK.fine("13 a", x.step(0, 0), x, 9999);
        CHECK.fine("13 b", x.step(0, 1), x, 1);
        CHECK.refused("13 one step", x.step(1, 0), x, 1);
        CHECK.refused("13 what", x.step(0, 2), x, 1);
        CHECK.refused("13 what", x.step(0, -1), x, 1);
        NumberHeaps like = CHECK.sound("number 8,8", 2);
        CHECK.fine("11 like", like.difference(), like, 0);
        CHECK.fine("12 like", like.differenceOf(0), like, 0);
        CHECK.fine("12 like", like.differenceOf(1), like, 1);
    }

    /** "of like ones that with the NUMBER of the least place". */
    private static void differenceOfLikeValues() {
        // 3 (0) and 3 (1) become 0; 1 (2) less that: 2 and 1 against 0
        sides("number 3,3,1", 1, "011");
        // 5 (2) and 4 (3) become 1 (2|3); 1 (0) and 1 (1) go ahead of it
        sides("number 1,1,5,4", 1, "0110");
        // 5 (0) and 4 (3) become 1 (0|3), which goes ahead of 1 (1)
        sides("number 5,1,1,4", 1, "0111");
    }

    /** "that with the NUMBER of the least place": on whichever SIDE it lies; 3 (3) and 2 (0) become 1 (3|0). */
    private static void leastPlaceOfBothSides() {
        sides("number 2,1,1,3", 1, "0001");
    }

    /** "SIDES as told: 0 is that on which NUMBER 0 lies": the second one, too. */
    private static void theSideOfNumberZero() {
        sides("number 1,9", 8, "01");
        sides("number 9,1", 8, "01");
        sides("number 1,1,9", 7, "001");
    }

    private static void sides(String text, int difference, String sides) {
        NumberHeaps x = CHECK.sound(text, sides.length());
        CHECK.fine("11 '" + text + "'", x.difference(), x, difference);
        for (int i = 0; i < sides.length(); i++) {
            CHECK.fine("12 '" + text + "' " + i, x.differenceOf(i), x, sides.charAt(i) - '0');
        }
    }

    /** "(0: the first)": nine steps of ten NUMBERS, each power of two less the next; all like: zeros at last. */
    private static void stepsOfTen() {
        NumberHeaps x = CHECK.sound(POWERS, 10);
        NumberHeaps like = CHECK.sound(LIKE, 10);
        for (int j = 0; j < 9; j++) {
            CHECK.fine("13 a of step " + j, x.step(j, 0), x, 512 >> j);
            CHECK.fine("13 b of step " + j, x.step(j, 1), x, 256 >> j);
            CHECK.fine("13 a of like ones, step " + j, like.step(j, 0), like, j < 5 ? 9999 : 0);
            CHECK.fine("13 b of like ones, step " + j, like.step(j, 1), like, j < 5 ? 9999 : 0);
        }
        CHECK.refused("13 no tenth step", x.step(9, 0), x, 1);
        CHECK.refused("13 step -1", x.step(-1, 0), x, 1);
        sides(POWERS, 1, "0000000001");
        sides(LIKE, 0, "0110101010");
    }

    /** "at first a NUMBER and k less 1 empty ones": NUMBERS fewer than HEAPS lie alone, the greatest in HEAP 0. */
    private static void multiOfFewerThanHeaps() {
        parts("number 7", 2, 7, "0");
        parts("number 7", 3, 7, "0");
        parts("number 7", 4, 7, "0");
        parts("number 3,8", 2, 5, "10");
        parts("number 3,8", 3, 8, "10");
        parts("number 3,8", 4, 8, "10");
        parts("number 5,1,7", 4, 7, "120");
        // as many as HEAPS: "then the least value is taken off all"
        parts("number 5,1,7,4", 4, 6, "1302");
    }

    /** "PARTS ... of like ones that with the NUMBER of the least place". */
    private static void multiOfLikeParts() {
        parts("number 4,4", 2, 0, "01");
        parts("number 4,4", 4, 4, "01");
        parts("number 5,5,5", 3, 0, "012");
        parts("number 5,5,5,5", 4, 0, "0123");
    }

    /** "ITEMS ... of like ones that with the NUMBER of the least place", in whichever PART it lies. */
    private static void multiOfLikeWidths() {
        parts("number 2,2,2", 2, 2, "100");
        parts("number 1,4,1,1", 3, 3, "2011");
        parts("number 4,2,4,2,2", 4, 2, "03122");
        parts("number 2,2,2,4,2", 2, 0, "00110");
        parts("number 1,1,4,2,3", 2, 1, "11001");
    }

    private static void multiOfTen() {
        parts(POWERS, 2, 1, "1111111110");
        parts(LIKE, 2, 0, "0110101010");
    }

    private static void parts(String text, int k, int width, String heaps) {
        NumberHeaps x = CHECK.sound(text, heaps.length());
        CHECK.fine("14 '" + text + "' by " + k, x.multi(k), x, width);
        for (int i = 0; i < heaps.length(); i++) {
            CHECK.fine("15 '" + text + "' by " + k + ", " + i, x.multiOf(k, i), x, heaps.charAt(i) - '0');
        }
        CHECK.refused("15 no NUMBER", x.multiOf(k, heaps.length()), x, 1);
        CHECK.refused("15 no NUMBER", x.multiOf(k, -1), x, 1);
    }

    /** "(keep, apart aside)": the same answers though no ROW is ALLOWED. */
    private static void keepAndApartAside() {
        String text = "number 8,7,6,5,4";
        NumberHeaps free = CHECK.sound(text, 5);
        NumberHeaps barred = CHECK.sound(text + ";keep 0 in 3;keep 1 in 3;keep 2 in 0;apart 0 1;apart 1 2", 5);
        CHECK.due("23 none is ALLOWED", barred.rows(4), 0);
        for (int k = 2; k <= 4; k++) {
            CHECK.fine("9", barred.greedy(k, 0), barred, free.greedy(k, 0));
            CHECK.fine("9", barred.greedy(k, 1), barred, free.greedy(k, 1));
            CHECK.fine("14", barred.multi(k), barred, free.multi(k));
            CHECK.fine("24 from GREEDY's ROW", barred.climb(k, 0), barred, free.climb(k, 0));
            CHECK.fine("24 from GREEDY's ROW", barred.climb(k, 1), barred, free.climb(k, 1));
            CHECK.fine("19", barred.bound(k), barred, free.bound(k));
            for (int i = 0; i < 5; i++) {
                CHECK.fine("10", barred.greedyOf(k, i), barred, free.greedyOf(k, i));
                CHECK.fine("15", barred.multiOf(k, i), barred, free.multiOf(k, i));
                CHECK.fine("25", barred.climbOf(k, i), barred, free.climbOf(k, i));
            }
        }
        CHECK.fine("11", barred.difference(), barred, 2);
        for (int i = 0; i < 5; i++) {
            CHECK.fine("12", barred.differenceOf(i), barred, free.differenceOf(i));
            CHECK.fine("18", barred.searchOf(i), barred, free.searchOf(i));
            CHECK.fine("16", barred.search(i), barred, free.search(i));
        }
    }
}
