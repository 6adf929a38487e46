/** The edges of THE TAPE and of n: promises 1 (A new object), 2 (feed), 3 (text: n) and 42 (bytes). */
public final class EdgeTapeTest {
    private static final Check CHECK = new Check("EdgeTapeTest");
    private static final int[] FARTHEST = {Integer.MIN_VALUE, Integer.MAX_VALUE};

    public static void main(String[] args) {
        aNewObject();
        threeHundredBytes();
        noneComes();
        troubleStays();
        highestFirst();
        everyByteComesThrough();
        leastN();
        greatestN();
        emptyTape();
        emptyThen();
        refusedByTwoLeavesTheTape();
        howManyNumbers();
        fiveHundredAndTwelveCalls();
        CHECK.end();
    }

    /** "No TEXT." Nothing is there yet. */
    private static void aNewObject() {
        NumberHeaps x = new NumberHeaps();
        CHECK.due("1 trouble", x.trouble(), 0);
        CHECK.due("1 fault", x.fault(), 0);
        CHECK.due("1 where", x.where(), NumberHeaps.NONE);
        CHECK.due("1 bytes", x.bytes(), 0);
        CHECK.due("1 octet", Check.octetOr(x, 0), -7);
        CHECK.refused("1 no TEXT", x.about(0), x, 1);
        CHECK.refused("1 no ACT without a TEXT", x.undo(), x, 1);
        CHECK.due("1 no IMAGE", x.back(0), false);
        CHECK.due("1 no IMAGE", x.back(1), false);
        CHECK.due("1 two objects are two", Check.of("number 3").about(0) - x.about(0), 2);
    }

    /** "THE TAPE has 300 bytes"; "NONE, and none comes, if there would be more than 300". */
    private static void threeHundredBytes() {
        NumberHeaps x = new NumberHeaps();
        for (int turn = 1; turn <= 15; turn++) {
            CHECK.due("2 the " + turn + "th", x.feed(0, 0, 0, 0, 0), 20 * turn);
            CHECK.due("42 bytes", x.bytes(), 20 * turn);
        }
        for (int turn = 0; turn < 3; turn++) {
            CHECK.due("2 more than 300", x.feed(0, 0, 0, 0, 0), NumberHeaps.NONE);
            CHECK.due("42 bytes", x.bytes(), 300);
        }
    }

    /** "none comes": what was on THE TAPE is still there, to the last byte. */
    private static void noneComes() {
        StringBuilder text = new StringBuilder("number 7");
        while (text.length() < 296) {
            text.append(' ');
        }
        text.append(",345");
        NumberHeaps x = new NumberHeaps();
        CHECK.due("2 300 bytes", Check.feed(x, Check.bytesOf(text.toString())), 300);
        CHECK.due("2 more", x.feed(0x41414141, 0x41414141, 0x41414141, 0x41414141, 0x41414141), NumberHeaps.NONE);
        CHECK.fine("3 all 300", x.text(300), x, 2);
        CHECK.due("3 the last bytes", x.number(1, 0), 345);
    }

    /** "(trouble() stays)", whatever it is, fed or not. */
    private static void troubleStays() {
        for (int trouble = 0; trouble <= 6; trouble++) {
            NumberHeaps x = withTrouble(trouble);
            int where = x.where();
            CHECK.due("5 where by " + trouble, where != NumberHeaps.NONE, trouble == 4);
            for (int turn = 1; turn <= 17; turn++) {
                x.feed(0, 0, 0, 0, 0);
                CHECK.due("2 trouble stays " + trouble, x.trouble(), trouble);
                CHECK.due("2 where stays", x.where(), where);
            }
        }
    }

    private static NumberHeaps withTrouble(int trouble) {
        NumberHeaps x = Check.of("number 3,2;keep 0 in 1;keep 1 in 1;apart 0 1");
        switch (trouble) {
            case 1: x.about(8); break;
            case 2: x.bound(5); break;
            case 3:
                for (int n = 3; n <= 11; n++) {
                    x.add(1);
                }
                break;
            case 4: Check.text(x, "number"); break;
            case 5: x.undo(); break;
            case 6: x.write(); break;
            default: break;
        }
        CHECK.due("43 trouble " + trouble, x.trouble(), trouble);
        return x;
    }

    /** "Twenty bytes come behind THE TAPE, of each number the highest first": one that begins no TOKEN anywhere. */
    private static void highestFirst() {
        for (int place = 0; place < 40; place++) {
            int[] words = new int[10];
            for (int w = 0; w < 10; w++) {
                words[w] = 0x20202020;
            }
            int shift = 24 - 8 * (place % 4);
            words[place / 4] = words[place / 4] & ~(255 << shift) | 0x80 << shift;
            NumberHeaps x = new NumberHeaps();
            x.feed(words[0], words[1], words[2], words[3], words[4]);
            x.feed(words[5], words[6], words[7], words[8], words[9]);
            CHECK.refused("2 byte " + place, x.text(40), x, 4);
            CHECK.due("2 fault", x.fault(), 1);
            CHECK.due("2 where", x.where(), place);
        }
    }

    /** A byte of each of the 256: only small letters, digits, ; , and the blank begin TOKENS or mean nothing. */
    private static void everyByteComesThrough() {
        for (int b = 0; b < 256; b++) {
            NumberHeaps x = new NumberHeaps();
            x.feed(0x6e756d62, 0x65722031, b << 24 | 0x202020, 0x20202020, 0x20202020);
            boolean digit = b >= '0' && b <= '9';
            boolean sound = digit || b == ' ';
            CHECK.due("2 behind 'number 1' byte " + b, x.text(9), sound ? 1 : NumberHeaps.NONE);
            CHECK.due("5 where", x.where(), sound ? -1 : b == ';' || b == ',' ? 9 : 8);
            CHECK.due("4 fault", x.fault(), sound ? 0 : 1);
            if (sound) {
                CHECK.due("7 itself", x.number(0, 0), digit ? 10 + b - '0' : 1);
            }
        }
    }

    /** "NONE: 2 (n)": one below the least; the least is a TEXT of no bytes. */
    private static void leastN() {
        NumberHeaps x = new NumberHeaps();
        Check.feed(x, Check.bytesOf("number 5"));
        CHECK.refused("3 n -1", x.text(-1), x, 2);
        CHECK.refused("3 n", x.text(FARTHEST[0]), x, 2);
        CHECK.due("4 by 2 there is no fault", x.fault(), 0);
        CHECK.refused("3 n 0", x.text(0), x, 4);
        CHECK.due("4 FORM", x.fault(), 1);
        CHECK.due("5 at the end", x.where(), 0);
        CHECK.due("42 empty then", x.bytes(), 0);
    }

    /** "The first n bytes of THE TAPE": all there are, one more. */
    private static void greatestN() {
        NumberHeaps x = new NumberHeaps();
        x.feed(0x6e756d62, 0x65722031, 0x2c323333, 0x2c343434, 0x2c353535);
        CHECK.refused("3 n 21 of 20", x.text(21), x, 2);
        CHECK.refused("3 n", x.text(FARTHEST[1]), x, 2);
        CHECK.fine("3 n 20 of 20", x.text(20), x, 4);
        CHECK.due("3 the last byte", x.number(3, 0), 555);
        x.feed(0x6e756d62, 0x65722031, 0x2c323333, 0x2c343434, 0x2c353535);
        CHECK.fine("3 n 19 of 20", x.text(19), x, 4);
        CHECK.due("3 without the last byte", x.number(3, 0), 55);
        NumberHeaps full = new NumberHeaps();
        for (int turn = 0; turn < 15; turn++) {
            full.feed(0x20202020, 0x20202020, 0x20202020, 0x20202020, 0x20202020);
        }
        CHECK.refused("3 n 301 of 300", full.text(301), full, 2);
        CHECK.refused("3 n 300 of 300", full.text(300), full, 4);
        CHECK.due("5 the end of 300", full.where(), 300);
    }

    /** Nothing was fed: one byte is too many. */
    private static void emptyTape() {
        NumberHeaps x = new NumberHeaps();
        CHECK.refused("3 n 1 of 0", x.text(1), x, 2);
        CHECK.due("5 where by 2", x.where(), NumberHeaps.NONE);
        CHECK.refused("3 n 0 of 0", x.text(0), x, 4);
        CHECK.due("5 where by 4", x.where(), 0);
        CHECK.refused("3 n -1 of 0", x.text(-1), x, 2);
        CHECK.due("5 where by 2", x.where(), NumberHeaps.NONE);
        CHECK.due("4 the fault of the one not refused by 2", x.fault(), 1);
    }

    /** "(it is empty then)": what stands behind the n bytes goes, too, be the TEXT sound or not. */
    private static void emptyThen() {
        String[] texts = {"number 4", "nomber 4"};
        for (String text : texts) {
            NumberHeaps x = new NumberHeaps();
            Check.feed(x, Check.bytesOf(text + "            number 6,6"));
            CHECK.due("42 ahead", x.bytes(), 40);
            x.text(8);
            CHECK.due("42 empty then", x.bytes(), 0);
            CHECK.refused("3 nothing is left", x.text(1), x, 2);
            CHECK.due("2 from the beginning", x.feed(0x6e756d62, 0x65722039, 0x20202020, 0x20202020, 0x20202020), 20);
            CHECK.fine("3 only what came then", x.text(20), x, 1);
            CHECK.due("7 itself", x.number(0, 0), 9);
        }
    }

    /** "What is refused changes nothing but trouble(), where()": by 2 THE TAPE stays, and can still be read. */
    private static void refusedByTwoLeavesTheTape() {
        NumberHeaps x = new NumberHeaps();
        Check.feed(x, Check.bytesOf("number 4"));
        CHECK.refused("3", x.text(21), x, 2);
        CHECK.due("42 stays", x.bytes(), 20);
        CHECK.refused("1 no TEXT yet", x.about(0), x, 1);
        CHECK.fine("3 then", x.text(20), x, 1);
    }

    /** "how many NUMBERS": the fewest and the most. */
    private static void howManyNumbers() {
        NumberHeaps x = new NumberHeaps();
        CHECK.fine("3 one", Check.text(x, "number 1"), x, 1);
        CHECK.fine("3 ten", Check.text(x, "number 1,1,1,1,1,1,1,1,1,1"), x, 10);
    }

    /** "at most 512 calls": the last of them still answers as due. */
    private static void fiveHundredAndTwelveCalls() {
        NumberHeaps x = new NumberHeaps();
        Check.feed(x, Check.bytesOf("number 1,2,3"));
        x.text(12);
        for (int call = 3; call <= 509; call++) {
            x.become(0, call);
        }
        CHECK.due("the 510th call", x.undo(), 9);
        CHECK.due("the 511th call", x.number(0, 0), 508);
        CHECK.due("the 512th call", x.search(0), 503);
    }
}
