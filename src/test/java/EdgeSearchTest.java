/** The edges of SEARCH: promises 16 (search), 17 (find) and 18 (searchOf). */
public final class EdgeSearchTest {
    private static final Check CHECK = new Check("EdgeSearchTest");

    public static void main(String[] args) {
        hasItOne();
        noLessThanAllOthers();
        lessThanAnyLeafAhead();
        perfectStops();
        neverPerfect();
        theFirstFindAndTheLast();
        whatIsNotThere();
        sidesOfALeaf();
        anew();
        CHECK.end();
    }

    /** "Has it one": a LEAF, which is visited and is the first FIND; PERFECT only if it is 1. */
    private static void hasItOne() {
        told("number 1", 1, 1, 1, 1, 1);
        told("number 2", 2, 1, 1, 1, 0);
        told("number 9999", 9999, 1, 1, 1, 0);
    }

    /** "is the first one's value no less than all others' together": one less, as much, one more. */
    private static void noLessThanAllOthers() {
        // 3 2 2, then 2 1: a LEAF of 1
        told("number 3,2,2", 1, 2, 1, 1, 1);
        told("number 4,2,2", 0, 1, 1, 1, 1);
        told("number 5,2,2", 1, 1, 1, 1, 1);
        told("number 6,2,2", 2, 1, 1, 1, 0);
        told("number 8,8", 0, 1, 1, 1, 1);
        told("number 2,9999", 9997, 1, 1, 1, 0);
    }

    /** "Is that less than any LEAF's ahead (or the first), it is a FIND": a like one is none, a greater one is none. */
    private static void lessThanAnyLeafAhead() {
        // 2 2 2; 2 0: 2; 4 2: 2 again
        told("number 2,2,2", 2, 3, 2, 1, 0);
        // 8 7 6 5 4; 6 5 4 1; 4 1 1: 2; 11 4 1: 6; 15 6 5 4: 0
        told("number 8,7,6,5,4", 0, 5, 3, 2, 1);
    }

    /** "is it TOTAL modulo 2, all is over (PERFECT)": TOTAL even, odd; no row is visited any more. */
    private static void perfectStops() {
        // 7 6 5 4; 5 4 1: 0
        told("number 7,6,5,4", 0, 2, 1, 1, 1);
        // 5 4 3 3; 3 3 1; 1 0: 1
        told("number 5,4,3,3", 1, 3, 1, 1, 1);
        NumberHeaps x = CHECK.sound("number 8,7,6,5,4", 5);
        CHECK.due("17 the last FIND is the last row", x.find(1, 1), x.search(1));
    }

    /** Without a PERFECT one all are visited: 2 2 2 2 2; 2 2 2 0; 2 0 0; 4 2 0; 4 2 2 2; 2 2 2; 2 0; 4 2; 6 2 2. */
    private static void neverPerfect() {
        told("number 2,2,2,2,2", 2, 9, 5, 1, 0);
        NumberHeaps x = CHECK.sound("number 2,2,2,2,2", 5);
        CHECK.fine("17 visited by the first", x.find(0, 1), x, 3);
    }

    /** "The j-th FIND (0: the first)": the first, the last, one before, one behind. */
    private static void theFirstFindAndTheLast() {
        NumberHeaps x = CHECK.sound("number 8,7,6,5,4", 5);
        CHECK.fine("17 the first", x.find(0, 0), x, 2);
        CHECK.fine("17 the first, visited", x.find(0, 1), x, 3);
        CHECK.fine("17 the last", x.find(1, 0), x, 0);
        CHECK.fine("17 the last, visited", x.find(1, 1), x, 5);
        CHECK.refused("17 one behind", x.find(2, 0), x, 1);
        CHECK.refused("17 one behind", x.find(2, 1), x, 1);
        CHECK.refused("17 one before", x.find(-1, 0), x, 1);
        NumberHeaps one = CHECK.sound("number 3", 1);
        CHECK.fine("17 the only one", one.find(0, 0), one, 3);
        CHECK.fine("17 the only one, visited", one.find(0, 1), one, 1);
        CHECK.refused("17 no second", one.find(1, 0), one, 1);
    }

    /** "NONE: 1 (no TEXT, what)", "1 (what, too)". */
    private static void whatIsNotThere() {
        NumberHeaps x = CHECK.sound("number 8,7,6,5,4", 5);
        CHECK.refused("16 what -1", x.search(-1), x, 1);
        CHECK.refused("16 what 5", x.search(5), x, 1);
        CHECK.refused("17 what -1", x.find(0, -1), x, 1);
        CHECK.refused("17 what 2", x.find(0, 2), x, 1);
        CHECK.refused("18 no NUMBER", x.searchOf(-1), x, 1);
        CHECK.refused("18 no NUMBER", x.searchOf(5), x, 1);
        NumberHeaps none = new NumberHeaps();
        CHECK.refused("16 no TEXT", none.search(0), none, 1);
        CHECK.refused("17 no TEXT", none.find(0, 0), none, 1);
        CHECK.refused("18 no TEXT", none.searchOf(0), none, 1);
    }

    /** "(the first SIDE: its first and all others' second ones)"; "The last FIND"; 0 is NUMBER 0's. */
    private static void sidesOfALeaf() {
        sides("number 7", "0");
        sides("number 1,3", "01");
        sides("number 3,2,1", "011");
        sides("number 1,2,3", "001");
        // the row 2 (2), 0 (0|1): 2 and 1 against 0
        sides("number 2,2,2", "011");
        // the second FIND, 15 (0 1) against the others, not the first
        sides("number 8,7,6,5,4", "00111");
        // 6 (3) and 5 (2) become 1 (3|2); 4 (1) against 3 (0) and that: 1 and 2 against 0 and 3
        sides("number 3,4,5,6", "0110");
    }

    private static void sides(String text, String sides) {
        NumberHeaps x = CHECK.sound(text, sides.length());
        for (int i = 0; i < sides.length(); i++) {
            CHECK.fine("18 '" + text + "' " + i, x.searchOf(i), x, sides.charAt(i) - '0');
        }
    }

    /** What was found ahead of an ACT, undo, BACK or a TEXT counts no more. */
    private static void anew() {
        NumberHeaps x = CHECK.sound("number 8,7,6,5,4", 5);
        told(x, 0, 5, 3, 2, 1);
        x.image(0);
        x.add(30);
        told(x, 0, 1, 1, 1, 1);
        CHECK.refused("17 only one now", x.find(1, 0), x, 1);
        x.undo();
        told(x, 0, 5, 3, 2, 1);
        x.become(0, 99);
        told(x, 77, 1, 1, 1, 0);
        x.back(0);
        told(x, 0, 5, 3, 2, 1);
        Check.text(x, "number 2");
        told(x, 2, 1, 1, 1, 0);
        Check.text(x, "number 0");
        told(x, 2, 1, 1, 1, 0);
    }

    private static void told(String text, int... due) {
        told(Check.of(text), due);
    }

    private static void told(NumberHeaps x, int... due) {
        for (int what = 0; what < 5; what++) {
            CHECK.fine("16 what " + what, x.search(what), x, due[what]);
        }
    }
}
