/** Promises 40, 41 and 43: write, octet, trouble. */
public final class WrittenTest {
    private static final Check CHECK = new Check("WrittenTest");

    public static void main(String[] args) {
        write();
        longest();
        whatStays();
        trouble();
        CHECK.end();
    }

    private static void write() {
        writes("number 8,7,6,5,4", "8+7/6+5+4");
        writes("number 8,7,6,5,4;heaps 3", "8/7+4/6+5");
        writes("number 1", "1/0");
        writes("number 1;heaps 4", "1/0/0/0");
        writes("number 1;heaps 4;keep 0 in 2", "0/0/1/0");
        writes("number 1000,1001;keep 0 in 1", "1001/1000");
        writes("number 100,10,9,101", "100+10/9+101");
        writes("number 5,5,5,5;keep 3 in 0", "5+5/5+5");
        writes("number 5,5,5,5;keep 3 in 0;apart 0 3", "5+5/5+5");
    }

    private static void writes(String text, String due) {
        NumberHeaps x = Check.of(text);
        CHECK.fine("40 '" + text + "'", x.write(), x, due.length());
        CHECK.octets("41 '" + text + "'", x, due);
    }

    private static void longest() {
        String ten = "number 9999,9999,9999,9999,9999,9999,9999,9999,9999,9999;heaps 4";
        NumberHeaps x = Check.of(ten);
        CHECK.fine("40 ten", x.write(), x, 49);
        // all kept in HEAP 3: ten NUMBERS, nine + and three empty HEAPS
        for (int i = 0; i < 10; i++) {
            x.keepIn(i, 3);
        }
        CHECK.fine("40 the longest", x.write(), x, 55);
        StringBuilder due = new StringBuilder("0/0/0/9999");
        for (int i = 1; i < 10; i++) {
            due.append("+9999");
        }
        CHECK.octets("41 the longest", x, due.toString());
    }

    private static void whatStays() {
        NumberHeaps x = new NumberHeaps();
        CHECK.refused("40 no TEXT", x.write(), x, 1);
        CHECK.octets("41 nothing", x, "");
        Check.text(x, "number 3,2,1");
        CHECK.octets("41 nothing written yet", x, "");
        CHECK.fine("40", x.write(), x, 5);
        CHECK.octets("41", x, "3/2+1");
        x.keepIn(0, 2);
        CHECK.octets("41 an ACT leaves it", x, "3/2+1");
        CHECK.refused("40 no ROW", x.write(), x, 6);
        CHECK.octets("41 refused", x, "3/2+1");
        x.heaps(3);
        CHECK.fine("40 by HEAPS", x.write(), x, 5);
        CHECK.octets("41", x, "2/1/3");
        Check.text(x, "number 12");
        CHECK.octets("41 a TEXT leaves it", x, "2/1/3");
        CHECK.fine("40 shorter", x.write(), x, 4);
        CHECK.octets("41 shorter", x, "12/0");
        x.octet(0);
        CHECK.due("41 the greatest j", far(x, Integer.MAX_VALUE), true);
        CHECK.due("41 the least j", far(x, Integer.MIN_VALUE), true);
    }

    private static boolean far(NumberHeaps x, int j) {
        try {
            x.octet(j);
            return false;
        } catch (java.util.NoSuchElementException none) {
            return true;
        }
    }

    private static void trouble() {
        NumberHeaps x = Check.of("number 3,2,1");
        CHECK.due("43 not refused", x.trouble(), 0);
        x.about(9);
        CHECK.due("43", x.trouble(), 1);
        CHECK.due("43 again", x.trouble(), 1);
        x.feed(1, 2, 3, 4, 5);
        x.fault();
        x.where();
        x.bytes();
        far(x, 99);
        CHECK.due("43 stays", x.trouble(), 1);
        x.greedy(9, 0);
        CHECK.due("43", x.trouble(), 2);
        x.text(5);
        CHECK.due("43", x.trouble(), 4);
        x.undo();
        CHECK.due("43", x.trouble(), 5);
        x.image(0);
        CHECK.due("43 not refused", x.trouble(), 0);
        x.undo();
        x.back(0);
        CHECK.due("43 not refused", x.trouble(), 0);
    }
}
