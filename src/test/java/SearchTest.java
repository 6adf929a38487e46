/** Promises 16 to 18: search, find, searchOf. */
public final class SearchTest {
    private static final Check CHECK = new Check("SearchTest");

    public static void main(String[] args) {
        perfect();
        neverPerfect();
        atOnce();
        behindChanges();
        sidesTellTheDifference();
        eachFirst();
        refused();
        CHECK.end();
    }

    /** 8 7 6 5 4; 6 5 4 1; 4 1 1, a LEAF of 2; 11 4 1, of 6; 15 6 5 4, of 0: all is over. */
    private static void perfect() {
        NumberHeaps x = Check.of("number 8,7,6,5,4;keep 0 in 0;keep 2 in 0;apart 0 1");
        told(x, 0, 5, 3, 2, 1);
        CHECK.fine("17 first", x.find(0, 0), x, 2);
        CHECK.fine("17 first visited", x.find(0, 1), x, 3);
        CHECK.fine("17 second", x.find(1, 0), x, 0);
        CHECK.fine("17 second visited", x.find(1, 1), x, 5);
        CHECK.refused("17 no third", x.find(2, 0), x, 1);
        int[] sides = {0, 0, 1, 1, 1};
        for (int i = 0; i < 5; i++) {
            CHECK.fine("18 " + i, x.searchOf(i), x, sides[i]);
        }
    }

    /** 2 2 2; 2 0, a LEAF of 2; 4 2, of 2, which is no FIND. */
    private static void neverPerfect() {
        NumberHeaps x = Check.of("number 2,2,2");
        told(x, 2, 3, 2, 1, 0);
        CHECK.fine("17 first visited", x.find(0, 1), x, 2);
        CHECK.refused("17 like ones are no FIND", x.find(1, 0), x, 1);
        // 2 (2) and 0 (0 | 1): first SIDE 2 and 1
        int[] sides = {0, 1, 1};
        for (int i = 0; i < 3; i++) {
            CHECK.fine("18 " + i, x.searchOf(i), x, sides[i]);
        }
    }

    private static void atOnce() {
        NumberHeaps x = Check.of("number 1,3");
        told(x, 2, 1, 1, 1, 0);
        CHECK.fine("18", x.searchOf(1), x, 1);
        NumberHeaps odd = Check.of("number 2,3");
        told(odd, 1, 1, 1, 1, 1);
        NumberHeaps one = Check.of("number 9");
        told(one, 9, 1, 1, 1, 0);
        CHECK.fine("17 one", one.find(0, 0), one, 9);
        CHECK.fine("18 one", one.searchOf(0), one, 0);
        told(Check.of("number 1"), 1, 1, 1, 1, 1);
        told(Check.of("number 7,4,2,1"), 0, 1, 1, 1, 1);
    }

    private static void behindChanges() {
        NumberHeaps x = Check.of("number 8,7,6,5,4");
        told(x, 0, 5, 3, 2, 1);
        x.image(0);
        x.become(0, 100);
        told(x, 78, 1, 1, 1, 0);
        x.undo();
        told(x, 0, 5, 3, 2, 1);
        x.drop(0);
        // 7 6 5 4; 5 4 1, a LEAF of 0
        told(x, 0, 2, 1, 1, 1);
        x.back(0);
        told(x, 0, 5, 3, 2, 1);
        Check.text(x, "number 9");
        told(x, 9, 1, 1, 1, 0);
    }

    /** The SIDES' sums lie as far from one another as the last FIND and DIFFERENCE say. */
    private static void sidesTellTheDifference() {
        java.util.Random random = new java.util.Random(11);
        for (int turn = 0; turn < 3000; turn++) {
            int n = 5 + random.nextInt(6);
            int bound = turn % 2 == 0 ? 9999 : 30;
            StringBuilder text = new StringBuilder("number ");
            int[] values = new int[n];
            for (int i = 0; i < n; i++) {
                values[i] = 1 + random.nextInt(bound);
                text.append(i == 0 ? "" : ",").append(values[i]);
            }
            NumberHeaps x = Check.of(text.toString());
            int found = 0;
            int differenced = 0;
            for (int i = 0; i < n; i++) {
                found += x.searchOf(i) == 0 ? values[i] : -values[i];
                differenced += x.differenceOf(i) == 0 ? values[i] : -values[i];
            }
            CHECK.due("18 '" + text + "'", Math.abs(found), x.search(0));
            CHECK.due("12 '" + text + "'", Math.abs(differenced), x.difference());
            CHECK.due("16 the least of all '" + text + "'", x.search(0), x.least(2, 0));
            CHECK.due("17 the last FIND", x.find(x.search(3) - 1, 0), x.search(0));
            CHECK.due("17 the first FIND is DIFFERENCE", x.find(0, 0), x.difference());
        }
    }

    /** Each call does its own search, whatever was asked ahead. */
    private static void eachFirst() {
        NumberHeaps x = Check.of("number 8,7,6,5,4");
        CHECK.fine("17 first of all", x.find(1, 1), x, 5);
        NumberHeaps y = Check.of("number 8,7,6,5,4");
        CHECK.fine("18 first of all", y.searchOf(1), y, 0);
        CHECK.fine("18 first of all", y.searchOf(2), y, 1);
    }

    private static void refused() {
        NumberHeaps none = new NumberHeaps();
        CHECK.refused("16 no TEXT", none.search(0), none, 1);
        CHECK.refused("17 no TEXT", none.find(0, 0), none, 1);
        CHECK.refused("18 no TEXT", none.searchOf(0), none, 1);
        NumberHeaps x = Check.of("number 2,2,2");
        CHECK.refused("16 what", x.search(5), x, 1);
        CHECK.refused("16 what", x.search(-1), x, 1);
        CHECK.refused("17 what", x.find(0, 2), x, 1);
        CHECK.refused("17 what", x.find(0, -1), x, 1);
        CHECK.refused("17 j", x.find(-1, 0), x, 1);
        CHECK.refused("17 j", x.find(Integer.MAX_VALUE, 0), x, 1);
        CHECK.refused("18 no NUMBER", x.searchOf(3), x, 1);
        CHECK.refused("18 no NUMBER", x.searchOf(-1), x, 1);
    }

    private static void told(NumberHeaps x, int least, int visited, int leaves, int finds, int perfect) {
        int[] due = {least, visited, leaves, finds, perfect};
        for (int what = 0; what < 5; what++) {
            CHECK.fine("16 what " + what, x.search(what), x, due[what]);
        }
    }
}
