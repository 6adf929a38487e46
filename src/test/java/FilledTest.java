/** Promises 9 to 15: greedy, greedyOf, difference, differenceOf, step, multi, multiOf. */
public final class FilledTest {
    private static final Check CHECK = new Check("FilledTest");

    public static void main(String[] args) {
        greedy();
        greedyRefused();
        difference();
        differenceRefused();
        eachFirst();
        multi();
        multiRefused();
        CHECK.end();
    }

    private static void greedy() {
        // 3 3 2 2 2 into three: {3, 2} {3} {2, 2}
        NumberHeaps x = Check.of("number 3,3,2,2,2;keep 0 in 1;apart 2 3");
        CHECK.fine("9 SPREAD", x.greedy(3, 0), x, 2);
        CHECK.fine("9 greatest", x.greedy(3, 1), x, 5);
        int[] heaps = {0, 1, 2, 2, 0};
        for (int i = 0; i < 5; i++) {
            CHECK.fine("10 " + i, x.greedyOf(3, i), x, heaps[i]);
        }
        // 5 7 7 5 by size: 7 (1), 7 (2), 5 (0), 5 (3)
        NumberHeaps y = Check.of("number 5,7,7,5");
        int[] two = {0, 0, 1, 1};
        int[] four = {2, 0, 1, 3};
        for (int i = 0; i < 4; i++) {
            CHECK.fine("10 two " + i, y.greedyOf(2, i), y, two[i]);
            CHECK.fine("10 four " + i, y.greedyOf(4, i), y, four[i]);
        }
        CHECK.fine("9 SPREAD", y.greedy(2, 0), y, 0);
        CHECK.fine("9 greatest", y.greedy(4, 1), y, 7);
        NumberHeaps one = Check.of("number 9");
        CHECK.fine("9 empty HEAPS count", one.greedy(4, 0), one, 9);
        CHECK.fine("9 greatest of one", one.greedy(2, 1), one, 9);
    }

    private static void greedyRefused() {
        NumberHeaps none = new NumberHeaps();
        CHECK.refused("9 no TEXT", none.greedy(2, 0), none, 1);
        CHECK.refused("9 no TEXT ahead of k", none.greedy(9, 0), none, 1);
        CHECK.refused("10 no TEXT", none.greedyOf(2, 0), none, 1);
        NumberHeaps x = Check.of("number 3,3");
        CHECK.refused("9 what", x.greedy(2, 2), x, 1);
        CHECK.refused("9 what", x.greedy(2, -1), x, 1);
        CHECK.refused("9 what ahead of k", x.greedy(5, 2), x, 1);
        CHECK.refused("9 k", x.greedy(1, 0), x, 2);
        CHECK.refused("9 k", x.greedy(5, 1), x, 2);
        CHECK.refused("10 k", x.greedyOf(1, 0), x, 2);
        CHECK.refused("10 k", x.greedyOf(5, 1), x, 2);
        CHECK.refused("10 no NUMBER", x.greedyOf(2, 2), x, 1);
        CHECK.refused("10 no NUMBER", x.greedyOf(2, -1), x, 1);
        CHECK.refused("10 no NUMBER ahead of k", x.greedyOf(1, 2), x, 1);
    }

    private static void difference() {
        // 4 (0) and 4 (1) become 0; 4 (2) and that 4: 2 and 1 against 0
        NumberHeaps x = Check.of("number 4,4,4;keep 0 in 0;keep 1 in 0;apart 0 2");
        CHECK.fine("11", x.difference(), x, 4);
        CHECK.fine("12", x.differenceOf(0), x, 0);
        CHECK.fine("12", x.differenceOf(1), x, 1);
        CHECK.fine("12", x.differenceOf(2), x, 1);
        CHECK.fine("13", x.step(0, 0), x, 4);
        CHECK.fine("13", x.step(0, 1), x, 4);
        CHECK.fine("13", x.step(1, 0), x, 4);
        CHECK.fine("13", x.step(1, 1), x, 0);
        // 5 and 4: 1 (0 | 3); 1 (1) is as great, but its NUMBER's place is behind 0: 1 (0|3) less 1 (1): 0;
        // 1 (2) less 0
        NumberHeaps y = Check.of("number 5,1,1,4");
        CHECK.fine("11", y.difference(), y, 1);
        int[] steps = {5, 4, 1, 1, 1, 0};
        int[] sides = {0, 1, 1, 1};
        for (int j = 0; j < 6; j++) {
            CHECK.fine("13 step " + j, y.step(j / 2, j % 2), y, steps[j]);
        }
        for (int i = 0; i < 4; i++) {
            CHECK.fine("12 " + i, y.differenceOf(i), y, sides[i]);
        }
        NumberHeaps one = Check.of("number 9");
        CHECK.fine("11 one", one.difference(), one, 9);
        CHECK.fine("12 one", one.differenceOf(0), one, 0);
    }

    /** Each call reckons for itself, whatever was asked ahead. */
    private static void eachFirst() {
        NumberHeaps x = Check.of("number 4,4,4");
        CHECK.fine("12 first of all", x.differenceOf(1), x, 1);
        NumberHeaps y = Check.of("number 5,1,1,4");
        CHECK.fine("13 first of all", y.step(1, 1), y, 1);
        NumberHeaps z = Check.of("number 2,2,2,2");
        CHECK.fine("15 first of all", z.multiOf(3, 1), z, 2);
        z.drop(0);
        z.drop(0);
        z.drop(0);
        CHECK.fine("15 one is left", z.multiOf(4, 0), z, 0);
        CHECK.fine("14 one is left", z.multi(4), z, 2);
    }

    private static void differenceRefused() {
        NumberHeaps none = new NumberHeaps();
        CHECK.refused("11 no TEXT", none.difference(), none, 1);
        CHECK.refused("12 no TEXT", none.differenceOf(0), none, 1);
        CHECK.refused("13 no TEXT", none.step(0, 0), none, 1);
        NumberHeaps x = Check.of("number 3,3,1");
        CHECK.refused("12 no NUMBER", x.differenceOf(3), x, 1);
        CHECK.refused("12 no NUMBER", x.differenceOf(-1), x, 1);
        CHECK.refused("13 no step", x.step(2, 0), x, 1);
        CHECK.refused("13 no step", x.step(-1, 0), x, 1);
        CHECK.refused("13 what", x.step(0, 2), x, 1);
        CHECK.refused("13 what", x.step(0, -1), x, 1);
        NumberHeaps one = Check.of("number 9");
        CHECK.refused("13 one NUMBER", one.step(0, 0), one, 1);
    }

    private static void multi() {
        // 0 and 1: (2, 2, -); with 2: (2, 2, 2), so (0, 0, 0); 3 on top: 3 with 2, then 0, then 1
        NumberHeaps x = Check.of("number 2,2,2,2;keep 0 in 0;apart 0 1");
        CHECK.fine("14", x.multi(3), x, 2);
        int[] heaps = {1, 2, 0, 0};
        for (int i = 0; i < 4; i++) {
            CHECK.fine("15 " + i, x.multiOf(3, i), x, heaps[i]);
        }
        // 7 and 5: (7, 5, -, -); with 4: (7, 5, 4, -); with 1: (7, 5, 4, 1) less 1
        NumberHeaps y = Check.of("number 5,1,7,4");
        CHECK.fine("14 four", y.multi(4), y, 6);
        int[] four = {1, 3, 0, 2};
        for (int i = 0; i < 4; i++) {
            CHECK.fine("15 four " + i, y.multiOf(4, i), y, four[i]);
        }
        // two: 7 - 5 = 2 (2 | 0); 4 (3) less 2: 2 (3 0 | 2); less 1
        CHECK.fine("14 two", y.multi(2), y, 1);
        int[] two = {0, 1, 1, 0};
        for (int i = 0; i < 4; i++) {
            CHECK.fine("15 two " + i, y.multiOf(2, i), y, two[i]);
        }
        NumberHeaps one = Check.of("number 9");
        CHECK.fine("14 one", one.multi(3), one, 9);
        CHECK.fine("15 one", one.multiOf(3, 0), one, 0);
    }

    private static void multiRefused() {
        NumberHeaps none = new NumberHeaps();
        CHECK.refused("14 no TEXT", none.multi(1), none, 1);
        CHECK.refused("15 no TEXT", none.multiOf(1, 0), none, 1);
        NumberHeaps x = Check.of("number 3,3");
        CHECK.refused("14 k", x.multi(1), x, 2);
        CHECK.refused("14 k", x.multi(5), x, 2);
        CHECK.refused("15 k", x.multiOf(1, 0), x, 2);
        CHECK.refused("15 k", x.multiOf(5, 0), x, 2);
        CHECK.refused("15 no NUMBER", x.multiOf(2, 2), x, 1);
        CHECK.refused("15 no NUMBER", x.multiOf(5, -1), x, 1);
    }
}
