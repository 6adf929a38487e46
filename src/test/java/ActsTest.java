/** Promises 30 to 39: add, drop, become, keepIn, apart, sort, heaps, undo, image, back. */
public final class ActsTest {
    private static final Check CHECK = new Check("ActsTest");

    public static void main(String[] args) {
        add();
        drop();
        become();
        keepIn();
        apart();
        sort();
        heaps();
        undo();
        undoTenAtMost();
        images();
        noText();
        CHECK.end();
    }

    private static void add() {
        NumberHeaps x = Check.of("number 5");
        CHECK.fine("30 least", x.add(1), x, 2);
        CHECK.fine("30 greatest", x.add(9999), x, 3);
        numbers("30", x, 5, 1, 9999);
        CHECK.due("30 kept in none", x.number(2, 2), -2);
        CHECK.due("30 BY SIZE", x.sized(0), 2);
        CHECK.refused("30 v", x.add(0), x, 2);
        CHECK.refused("30 v", x.add(10000), x, 2);
        CHECK.refused("30 v", x.add(-5), x, 2);
        for (int n = 4; n <= 10; n++) {
            CHECK.fine("30", x.add(n), x, n);
        }
        CHECK.due("30 ACTS", x.about(5), 9);
        CHECK.refused("30 no room", x.add(1), x, 3);
        CHECK.refused("30 v first", x.add(0), x, 2);
        CHECK.due("30 ten", x.about(0), 10);
        CHECK.due("30 what is refused is no ACT", x.about(5), 9);
        // a NUMBER kept and apart goes, another comes into its place
        NumberHeaps y = Check.of("number 5,6;keep 1 in 3;apart 0 1");
        y.drop(1);
        y.add(7);
        CHECK.due("30 not kept", y.number(1, 2), -2);
        CHECK.due("30 not apart", y.number(1, 3), 0);
    }

    private static void drop() {
        NumberHeaps x = Check.of("number 5,6,7,8;keep 1 in 3;keep 3 in 2;apart 0 3;apart 1 2;apart 2 3");
        CHECK.fine("31", x.drop(1), x, 6);
        numbers("31", x, 5, 7, 8);
        CHECK.due("31 kept", x.about(3), 1);
        CHECK.due("31 kept moves up", x.number(2, 2), 2);
        CHECK.due("31 apart", x.about(4), 2);
        CHECK.due("31 apart of 0", x.number(0, 3), 4);
        CHECK.due("31 apart of 1", x.number(1, 3), 4);
        CHECK.due("31 apart of 2", x.number(2, 3), 3);
        CHECK.refused("31 no NUMBER", x.drop(3), x, 1);
        CHECK.refused("31 no NUMBER", x.drop(-1), x, 1);
        CHECK.fine("31 the last", x.drop(2), x, 8);
        CHECK.due("31 none apart", x.about(4), 0);
        CHECK.due("31 none kept", x.about(3), 0);
        CHECK.fine("31 the first", x.drop(0), x, 5);
        CHECK.refused("31 the only one", x.drop(0), x, 5);
        CHECK.refused("31 no NUMBER first", x.drop(1), x, 1);
        numbers("31", x, 7);
        CHECK.due("31 ACTS", x.about(5), 3);
    }

    private static void become() {
        NumberHeaps x = Check.of("number 5,6;keep 0 in 1;apart 0 1");
        CHECK.fine("32", x.become(0, 9999), x, 5);
        CHECK.fine("32", x.become(1, 1), x, 6);
        CHECK.fine("32 the same", x.become(1, 1), x, 1);
        numbers("32", x, 9999, 1);
        CHECK.due("32 kept stays", x.number(0, 2), 1);
        CHECK.due("32 apart stays", x.number(0, 3), 2);
        CHECK.due("32 ACTS", x.about(5), 3);
        CHECK.refused("32 no NUMBER", x.become(2, 1), x, 1);
        CHECK.refused("32 no NUMBER first", x.become(-1, 0), x, 1);
        CHECK.refused("32 v", x.become(0, 0), x, 2);
        CHECK.refused("32 v", x.become(0, 10000), x, 2);
        numbers("32", x, 9999, 1);
    }

    private static void keepIn() {
        NumberHeaps x = Check.of("number 5,6");
        CHECK.fine("33", x.keepIn(0, 3), x, -2);
        CHECK.fine("33", x.keepIn(0, 0), x, 3);
        CHECK.fine("33 the same", x.keepIn(0, 0), x, 0);
        CHECK.due("33 kept", x.number(0, 2), 0);
        CHECK.due("33 how many", x.about(3), 1);
        CHECK.fine("33 in none", x.keepIn(0, -2), x, 0);
        CHECK.fine("33 in none again", x.keepIn(0, -2), x, -2);
        CHECK.due("33 how many", x.about(3), 0);
        CHECK.due("33 ACTS", x.about(5), 5);
        CHECK.refused("33 no NUMBER", x.keepIn(2, 0), x, 1);
        CHECK.refused("33 no NUMBER first", x.keepIn(-1, 9), x, 1);
        for (int h : new int[] {4, -1, -3, Integer.MAX_VALUE, Integer.MIN_VALUE}) {
            CHECK.refused("33 h", x.keepIn(0, h), x, 2);
        }
        CHECK.due("33 ACTS", x.about(5), 5);
    }

    private static void apart() {
        NumberHeaps x = Check.of("number 1,2,3,4,5");
        CHECK.fine("34", x.apart(0, 4), x, 1);
        CHECK.due("34 of 0", x.number(0, 3), 16);
        CHECK.due("34 of 4", x.number(4, 3), 1);
        CHECK.fine("34", x.apart(2, 1), x, 2);
        CHECK.fine("34 not any more", x.apart(4, 0), x, 1);
        CHECK.due("34 of 0", x.number(0, 3), 0);
        CHECK.refused("34 one NUMBER", x.apart(3, 3), x, 5);
        CHECK.refused("34 no NUMBER", x.apart(5, 0), x, 1);
        CHECK.refused("34 no NUMBER", x.apart(0, 5), x, 1);
        CHECK.refused("34 no NUMBER", x.apart(-1, -1), x, 1);
        for (int j = 1; j < 5; j++) {
            x.apart(0, j);
        }
        CHECK.fine("34 the sixth", x.apart(3, 4), x, 6);
        CHECK.refused("34 no room", x.apart(1, 3), x, 3);
        CHECK.refused("34 no NUMBER first", x.apart(1, 7), x, 1);
        CHECK.refused("34 no room is told ahead of one NUMBER", x.apart(1, 1), x, 3);
        CHECK.fine("34 one of six goes", x.apart(1, 2), x, 5);
        CHECK.fine("34 room again", x.apart(1, 3), x, 6);
        CHECK.due("34 ACTS", x.about(5), 10);
    }

    private static void sort() {
        NumberHeaps x = Check.of("number 5,9,5,7;keep 0 in 1;keep 3 in 2;apart 0 1;apart 2 3");
        CHECK.fine("35", x.sort(), x, 4);
        // 9 (1), 7 (3), 5 (0), 5 (2)
        numbers("35", x, 9, 7, 5, 5);
        CHECK.due("35 kept", x.number(1, 2), 2);
        CHECK.due("35 kept", x.number(2, 2), 1);
        CHECK.due("35 not kept", x.number(0, 2), -2);
        CHECK.due("35 not kept", x.number(3, 2), -2);
        int[] apart = {4, 8, 1, 2};
        for (int i = 0; i < 4; i++) {
            CHECK.due("35 apart " + i, x.number(i, 3), apart[i]);
            CHECK.due("35 BY SIZE", x.sized(i), i);
        }
        CHECK.fine("35 again", x.sort(), x, 0);
        CHECK.due("35 ACTS", x.about(5), 2);
        x.undo();
        CHECK.fine("35 undone", x.undo(), x, 0);
        numbers("35 undone", x, 5, 9, 5, 7);
        CHECK.due("35 apart", x.number(3, 3), 4);
        NumberHeaps first = Check.of("number 9,5,7");
        CHECK.fine("35 the first stays", first.sort(), first, 2);
        // the place of the first 2 changes though the row of values doesn't tell it
        NumberHeaps y = Check.of("number 1,2,2");
        CHECK.fine("35", y.sort(), y, 3);
    }

    private static void heaps() {
        NumberHeaps x = Check.of("number 5;keep 0 in 3");
        CHECK.fine("36", x.heaps(4), x, 2);
        CHECK.fine("36", x.heaps(3), x, 4);
        CHECK.fine("36 the same", x.heaps(3), x, 3);
        CHECK.due("36 HEAPS", x.about(1), 3);
        CHECK.due("36 ACTS", x.about(5), 3);
        for (int k : new int[] {1, 5, 0, -1}) {
            CHECK.refused("36 k", x.heaps(k), x, 2);
        }
        CHECK.due("36 HEAPS", x.about(1), 3);
        CHECK.due("36 kept stays", x.number(0, 2), 3);
    }

    private static void undo() {
        NumberHeaps x = Check.of("number 5,6,7;heaps 3;keep 2 in 1;apart 0 2");
        CHECK.refused("37 none", x.undo(), x, 5);
        x.add(8);
        x.drop(0);
        x.become(0, 60);
        x.keepIn(1, 3);
        x.apart(0, 1);
        x.sort();
        x.heaps(4);
        CHECK.due("37 ACTS", x.about(5), 7);
        numbers("37", x, 60, 8, 7);
        CHECK.fine("37 heaps", x.undo(), x, 6);
        CHECK.due("37 heaps", x.about(1), 3);
        CHECK.fine("37 sort", x.undo(), x, 5);
        numbers("37 sort", x, 60, 7, 8);
        CHECK.due("37 sort", x.number(0, 3), 2);
        CHECK.fine("37 apart", x.undo(), x, 4);
        CHECK.due("37 apart", x.about(4), 0);
        CHECK.fine("37 keepIn", x.undo(), x, 3);
        CHECK.due("37 keepIn", x.number(1, 2), 1);
        CHECK.fine("37 become", x.undo(), x, 2);
        numbers("37 become", x, 6, 7, 8);
        CHECK.fine("37 drop", x.undo(), x, 1);
        numbers("37 drop", x, 5, 6, 7, 8);
        CHECK.due("37 drop, apart", x.number(2, 3), 1);
        CHECK.fine("37 add", x.undo(), x, 0);
        numbers("37 add", x, 5, 6, 7);
        CHECK.refused("37 no more", x.undo(), x, 5);
        CHECK.due("37 BY SIZE", x.sized(0), 2);
    }

    private static void undoTenAtMost() {
        NumberHeaps x = Check.of("number 1");
        for (int v = 2; v <= 26; v++) {
            x.become(0, v);
            CHECK.due("37 ten at most", x.about(5), Math.min(10, v - 1));
        }
        for (int left = 9; left >= 5; left--) {
            CHECK.fine("37", x.undo(), x, left);
        }
        numbers("37 five back", x, 21);
        x.become(0, 99);
        CHECK.due("37 ACTS", x.about(5), 6);
        for (int left = 5; left >= 0; left--) {
            CHECK.fine("37", x.undo(), x, left);
        }
        numbers("37 the eleventh can't be undone", x, 16);
        CHECK.refused("37 no more", x.undo(), x, 5);
    }

    private static void images() {
        NumberHeaps x = Check.of("number 5,6;heaps 3;keep 0 in 2;apart 0 1");
        CHECK.due("39 not kept", x.back(0), false);
        CHECK.due("39 trouble", x.trouble(), 1);
        CHECK.due("38", x.image(0), true);
        CHECK.due("38 trouble", x.trouble(), 0);
        x.add(7);
        x.apart(0, 1);
        x.keepIn(0, -2);
        x.heaps(2);
        CHECK.due("38", x.image(1), true);
        CHECK.due("38 ACTS stay", x.about(5), 4);
        x.become(0, 50);
        CHECK.due("39", x.back(0), true);
        CHECK.due("39 trouble", x.trouble(), 0);
        numbers("39", x, 5, 6);
        CHECK.due("39 heaps", x.about(1), 3);
        CHECK.due("39 kept", x.number(0, 2), 2);
        CHECK.due("39 apart", x.number(0, 3), 2);
        CHECK.refused("39 no ACT can be undone", x.undo(), x, 5);
        x.become(0, 51);
        CHECK.due("39 the other", x.back(1), true);
        numbers("39 the other", x, 5, 6, 7);
        CHECK.due("39 heaps", x.about(1), 2);
        CHECK.due("39 the first again", x.back(0), true);
        numbers("39 the first again", x, 5, 6);
        x.drop(0);
        x.image(0);
        x.undo();
        CHECK.due("39 kept anew", x.back(0), true);
        numbers("39 kept anew", x, 6);
        for (int i : new int[] {-1, 2, Integer.MAX_VALUE, Integer.MIN_VALUE}) {
            CHECK.due("38 no IMAGE", x.image(i), false);
            CHECK.due("38 trouble", x.trouble(), 1);
            x.about(0);
            CHECK.due("39 no IMAGE", x.back(i), false);
            CHECK.due("39 trouble", x.trouble(), 1);
        }
    }

    private static void noText() {
        NumberHeaps x = new NumberHeaps();
        CHECK.refused("30 no TEXT", x.add(0), x, 1);
        CHECK.refused("31 no TEXT", x.drop(0), x, 1);
        CHECK.refused("32 no TEXT", x.become(0, 0), x, 1);
        CHECK.refused("33 no TEXT", x.keepIn(0, 9), x, 1);
        CHECK.refused("34 no TEXT", x.apart(0, 0), x, 1);
        CHECK.refused("35 no TEXT", x.sort(), x, 1);
        CHECK.refused("36 no TEXT", x.heaps(9), x, 1);
        CHECK.refused("37 no TEXT", x.undo(), x, 1);
        x.text(-1);
        CHECK.due("38 no TEXT", x.image(0), false);
        CHECK.due("38 trouble", x.trouble(), 1);
        x.text(-1);
        CHECK.due("39 no TEXT", x.back(0), false);
        CHECK.due("39 trouble", x.trouble(), 1);
    }

    private static void numbers(String call, NumberHeaps x, int... values) {
        CHECK.due(call + " how many", x.about(0), values.length);
        for (int i = 0; i < values.length; i++) {
            CHECK.due(call + " number " + i, x.number(i, 0), values[i]);
        }
    }
}
