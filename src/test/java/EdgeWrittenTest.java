/** The edges of what is written and of TROUBLE: promises 40 (write), 41 (octet) and 43 (trouble). */
public final class EdgeWrittenTest {
    private static final Check CHECK = new Check("EdgeWrittenTest");

    public static void main(String[] args) {
        theShortest();
        theLongest();
        emptyHeaps();
        digits();
        byHeaps();
        nothingWritten();
        theFirstByteAndTheLast();
        whatWasWrittenLast();
        whatLeavesIt();
        refusedLeavesIt();
        eachTrouble();
        CHECK.end();
    }

    /** One NUMBER of one digit in two HEAPS. */
    private static void theShortest() {
        writes("number 1", "1/0");
        writes("number 9", "9/0");
    }

    /** Ten NUMBERS of four digits; the most signs between: three / with three empty HEAPS, nine +. */
    private static void theLongest() {
        String ten = "number 9999,9999,9999,9999,9999,9999,9999,9999,9999,9999;heaps 4";
        writes(ten, "9999+9999+9999/9999+9999+9999/9999+9999/9999+9999");
        StringBuilder kept = new StringBuilder(ten);
        StringBuilder due = new StringBuilder("0/0/9999");
        for (int i = 0; i < 10; i++) {
            kept.append(";keep").append(i).append("in2");
            due.append(i == 0 ? "" : "+9999");
        }
        writes(kept.toString(), due.append("/0").toString());
    }

    /** "(an empty one: 0)": the first, one between, the last. */
    private static void emptyHeaps() {
        writes("number 5;heaps 3", "5/0/0");
        writes("number 5;heaps 3;keep 0 in 1", "0/5/0");
        writes("number 5;heaps 3;keep 0 in 2", "0/0/5");
        writes("number 5;heaps 4", "5/0/0/0");
        writes("number 5,6;heaps 4;keep 0 in 3;keep 1 in 1", "0/6/0/5");
    }

    /** "(themselves ...)": one digit to four, zeros within and at the end. */
    private static void digits() {
        writes("number 1,9999;keep 1 in 0", "9999/1");
        writes("number 9,10", "9/10");
        writes("number 99,100", "99/100");
        writes("number 999,1000", "999/1000");
        writes("number 1001,1010", "1001/1010");
        writes("number 1100,0101", "1100/101");
        writes("number 0007,0070", "7/70");
    }

    /** "THE ROW by HEAPS", "in the order of their places". */
    private static void byHeaps() {
        NumberHeaps x = CHECK.sound("number 1,2,3,4", 4);
        writes(x, "1+4/2+3");
        x.heaps(3);
        writes(x, "1+2/3/4");
        x.heaps(4);
        writes(x, "1/2/3/4");
        x.sort();
        writes(x, "4/3/2/1");
        x.heaps(2);
        writes(x, "4+1/3+2");
    }

    /** "NoSuchElementException if there is none such": nothing was written yet. */
    private static void nothingWritten() {
        NumberHeaps x = new NumberHeaps();
        CHECK.octets("41 no TEXT", x, "");
        CHECK.refused("40 no TEXT", x.write(), x, 1);
        CHECK.octets("41 refused", x, "");
        Check.text(x, "number 1;keep 0 in 2");
        CHECK.octets("41 a TEXT writes nothing", x, "");
        CHECK.refused("40 no ROW", x.write(), x, 6);
        CHECK.octets("41 refused", x, "");
    }

    /** "Byte j": 0 to the last; one below, one above, the farthest. */
    private static void theFirstByteAndTheLast() {
        NumberHeaps x = CHECK.sound("number 12", 1);
        CHECK.fine("40", x.write(), x, 4);
        CHECK.due("41 the first", x.octet(0), '1');
        CHECK.due("41 the last", x.octet(3), '0');
        for (int j : new int[] {-1, 4, 5, 54, 55, 63, 64, 65, Integer.MIN_VALUE, Integer.MAX_VALUE}) {
            CHECK.due("41 none such " + j, Check.octetOr(x, j), -7);
        }
        CHECK.due("41 is refused by no number", x.trouble(), 0);
    }

    /** "what was written last": a shorter one leaves nothing of the longer. */
    private static void whatWasWrittenLast() {
        NumberHeaps x = CHECK.sound("number 1234,5678;heaps 4", 2);
        writes(x, "1234/5678/0/0");
        x.drop(1);
        x.heaps(2);
        x.become(0, 3);
        CHECK.octets("41 not written yet", x, "1234/5678/0/0");
        writes(x, "3/0");
        writes(x, "3/0");
    }

    /** "(a TEXT leaves it)"; so do ACTS, undo, BACK, questions. */
    private static void whatLeavesIt() {
        NumberHeaps x = CHECK.sound("number 3,2,1", 3);
        writes(x, "3/2+1");
        x.image(0);
        x.add(50);
        x.least(4, 0);
        x.climb(3, 0);
        x.sums();
        CHECK.octets("41 an ACT", x, "3/2+1");
        x.undo();
        CHECK.octets("41 undo", x, "3/2+1");
        x.back(0);
        CHECK.octets("41 BACK", x, "3/2+1");
        Check.text(x, "number 77");
        CHECK.octets("41 a TEXT", x, "3/2+1");
        Check.text(x, "number 0");
        CHECK.octets("41 a FAULT", x, "3/2+1");
        writes(x, "77/0");
    }

    /** "NONE: 1 (no TEXT); 6 (no ROW is ALLOWED)": what was written stays. */
    private static void refusedLeavesIt() {
        NumberHeaps x = CHECK.sound("number 3,2,1", 3);
        writes(x, "3/2+1");
        x.keepIn(0, 2);
        CHECK.refused("40 kept beyond the HEAPS", x.write(), x, 6);
        CHECK.octets("41", x, "3/2+1");
        x.heaps(3);
        writes(x, "2/1/3");
        x.keepIn(1, 2);
        x.apart(0, 1);
        CHECK.refused("40 kept together but apart", x.write(), x, 6);
        CHECK.octets("41", x, "2/1/3");
    }

    /** "TROUBLE of the latest call that may be refused": each number, and 0 behind each. */
    private static void eachTrouble() {
        for (int trouble = 1; trouble <= 6; trouble++) {
            NumberHeaps x = CHECK.sound("number 1,1,1,1,1,1,1,1,1,1;keep 0 in 3", 10);
            CHECK.due("43 not refused", x.trouble(), 0);
            switch (trouble) {
                case 1: x.number(10, 0); break;
                case 2: x.become(0, 0); break;
                case 3: x.add(1); break;
                case 4: x.text(0); break;
                case 5: x.undo(); break;
                default: x.write(); break;
            }
            CHECK.due("43 refused", x.trouble(), trouble);
            CHECK.due("43 asked again", x.trouble(), trouble);
            x.fault();
            x.where();
            x.bytes();
            x.feed(1, 1, 1, 1, 1);
            Check.octetOr(x, 0);
            CHECK.due("43 of the latest that may be refused", x.trouble(), trouble);
            x.about(0);
            CHECK.due("43 it wasn't", x.trouble(), 0);
        }
    }

    private static void writes(String text, String due) {
        writes(Check.of(text), due);
    }

    private static void writes(NumberHeaps x, String due) {
        CHECK.fine("40 " + due, x.write(), x, due.length());
        CHECK.octets("41 " + due, x, due);
    }
}
