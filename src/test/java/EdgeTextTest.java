/** The edges of what a TEXT may be: 'Terms' I up to its FAULTS, sentence by sentence. */
public final class EdgeTextTest {
    private static final Check CHECK = new Check("EdgeTextTest");

    private static final String TEN = "number 1,2,3,4,5,6,7,8,9,10";
    private static final String SIX = "number 1,2,3,4;apart 0 1;apart 0 2;apart 0 3;apart 1 2;apart 1 3;apart 2 3";

    public static void main(String[] args) {
        blanks();
        blanksPart();
        everyByteBetweenTokens();
        everyByteAtTheBeginning();
        words();
        wholesOfOneToFourDigits();
        wholesOfFiveDigits();
        singleSigns();
        lines();
        leastAndGreatestNumber();
        oneBehindAnother();
        tenInAll();
        heapsTwoToFour();
        heapsWithoutAndOnce();
        keepPlaces();
        keepHeaps();
        keepOnceForEach();
        apartPlaces();
        apartUnlike();
        apartUpToSix();
        apartEachTwoOnce();
        CHECK.end();
    }

    /** "blanks, 32, ... mean nothing else": none where TOKENS part by themselves, many anywhere, also at both ends. */
    private static void blanks() {
        NumberHeaps tight = CHECK.sound("number1,2;heaps3;keep0in1;apart0 1", 2);
        NumberHeaps wide = CHECK.sound(" number   1   ,   2   ;   heaps   3  ;  keep   0   in  1  ;  apart  0  1  ", 2);
        for (NumberHeaps x : new NumberHeaps[] {tight, wide}) {
            CHECK.due("3 first", x.number(0, 0), 1);
            CHECK.due("3 second", x.number(1, 0), 2);
            CHECK.due("3 heaps", x.about(1), 3);
            CHECK.due("3 kept", x.number(0, 2), 1);
            CHECK.due("3 apart", x.number(0, 3), 2);
        }
        CHECK.faulty(" ", 1, 1);
        CHECK.faulty("                    ", 1, 20);
    }

    /** "blanks, 32, part TOKENS": what they part is two TOKENS. */
    private static void blanksPart() {
        CHECK.faulty("num ber 1", 1, 0);
        CHECK.faulty("number 1 2", 1, 9);
        CHECK.faulty("number 1,2;apart 01", 1, 19);
        CHECK.faulty("number 1;keep 0 i n 1", 1, 16);
        CHECK.faulty("number 1;heaps 2 3", 1, 17);
    }

    /** "1 FORM: a byte that begins no TOKEN": each of the 256 where a LINE may end. */
    private static void everyByteBetweenTokens() {
        for (int b = 0; b < 256; b++) {
            String text = "number 1 " + (char) b;
            if (b == ' ') {
                CHECK.sound(text, 1);
            } else {
                CHECK.faulty(text, 1, b == ';' || b == ',' ? 10 : 9);
            }
        }
    }

    /** The same where a LINE must begin: whatever it is, no TEXT is of one byte. */
    private static void everyByteAtTheBeginning() {
        for (int b = 0; b < 256; b++) {
            CHECK.faulty("" + (char) b, 1, b == ' ' ? 1 : 0);
            // between the WORD and its WHOLE
            String text = "number" + (char) b + "1";
            boolean digit = b >= '0' && b <= '9';
            if (digit || b == ' ') {
                CHECK.due("3 '" + text + "'", CHECK.sound(text, 1).number(0, 0), digit ? 10 * (b - '0') + 1 : 1);
            } else {
                CHECK.faulty(text, 1, b >= 'a' && b <= 'z' ? 0 : 6);
            }
        }
    }

    /** "WORDS of 1 to 6 small letters that stand together"; a letter too few, too many, another, a great one. */
    private static void words() {
        CHECK.sound("number 1", 1);
        String[] wrong = {"n", "numbe", "numbers", "numbes", "mumber", "Number", "numbeR", "abcdefghijklmnopqrstuvwxyz",
            "heap", "heapss", "heapz", "geaps", "Heaps", "kee", "keepp", "keeo", "jeep", "Keep", "apar", "apartt",
            "aparu", "bpart", "Apart", "in", "a", "z"};
        for (String word : wrong) {
            CHECK.faulty(word + " 1", 1, 0);
            CHECK.faulty("number 1,1;" + word + " 0 1", 1, 11);
        }
        for (String word : new String[] {"i", "inn", "im", "jn", "In", "iN", "number", "keep", "innnnnn"}) {
            CHECK.faulty("number 1;keep 0 " + word + " 1", 1, 16);
        }
        // a WORD that no LINE begins with is told by FORM, even if it begins like one that is told by 3 or 4
        CHECK.faulty("number 1;heaps 2;heapsss 2", 1, 17);
        CHECK.faulty(SIX + ";apartttt 0 1", 1, SIX.length() + 1);
    }

    /** "WHOLES of 1 to 4 digits": zeros ahead count for nothing. */
    private static void wholesOfOneToFourDigits() {
        NumberHeaps x = CHECK.sound("number 1,12,123,1234,0001,0012,0123,007;heaps 0003;keep 0007 in 0002"
            + ";apart 0000 0007", 8);
        int[] values = {1, 12, 123, 1234, 1, 12, 123, 7};
        for (int i = 0; i < 8; i++) {
            CHECK.due("3 number " + i, x.number(i, 0), values[i]);
        }
        CHECK.due("3 heaps", x.about(1), 3);
        CHECK.due("3 kept", x.number(7, 2), 2);
        CHECK.due("3 apart", x.number(0, 3), 128);
    }

    /** "digits too many that stand together (at the first of these)": whatever they would come to. */
    private static void wholesOfFiveDigits() {
        CHECK.faulty("number 00001", 1, 7);
        CHECK.faulty("number 10000", 1, 7);
        CHECK.faulty("number 99999", 1, 7);
        CHECK.faulty("number 1,00002", 1, 9);
        CHECK.faulty("number 1234567890", 1, 7);
        CHECK.faulty("number 4294967297", 1, 7);
        CHECK.faulty("number 1;heaps 00002", 1, 15);
        CHECK.faulty("number 1;keep 00000 in 1", 1, 14);
        CHECK.faulty("number 1;keep 0 in 00001", 1, 19);
        CHECK.faulty("number 1,1;apart 00000 1", 1, 17);
        CHECK.faulty("number 1,1;apart 0 00001", 1, 19);
        StringBuilder digits = new StringBuilder("number ");
        while (digits.length() < 300) {
            digits.append('0');
        }
        CHECK.faulty(digits.toString(), 1, 7);
    }

    /** "single ones of ; ,": two that stand together are two TOKENS. */
    private static void singleSigns() {
        CHECK.faulty("number 1,,2", 1, 9);
        CHECK.faulty("number 1;;number 2", 1, 9);
        CHECK.faulty("number 1,;number 2", 1, 9);
        CHECK.faulty("number 1;,2", 1, 9);
    }

    /** "LINE {; LINE}": none, one, many; a ; needs a LINE on both sides. */
    private static void lines() {
        CHECK.faulty("", 1, 0);
        CHECK.faulty(";", 1, 0);
        CHECK.faulty(";number 1", 1, 0);
        CHECK.faulty("number 1;", 1, 9);
        CHECK.faulty("number 1 ; ", 1, 11);
        CHECK.faulty("number 1 number 2", 1, 9);
        CHECK.faulty("number 1,number 2", 1, 9);
        CHECK.sound("number 1;number 2;number 3;number 4;number 5;number 6;number 7;number 8;number 9;number 10", 10);
        // as many LINES as there can be: ten NUMBERS, HEAPS, ten kept, six apart
        StringBuilder all = new StringBuilder("heaps2");
        for (int i = 0; i < 10; i++) {
            all.append(";number").append(i + 1).append(";keep").append(i).append("in").append(i % 4);
        }
        for (int j = 1; j <= 6; j++) {
            all.append(";apart0 ").append(j);
        }
        NumberHeaps x = CHECK.sound(all.toString(), 10);
        CHECK.due("3 kept", x.about(3), 10);
        CHECK.due("3 apart", x.about(4), 6);
    }

    /** "NUMBERS 1 .. 9,999". */
    private static void leastAndGreatestNumber() {
        CHECK.due("3 the least", CHECK.sound("number 1", 1).number(0, 0), 1);
        CHECK.due("3 the greatest", CHECK.sound("number 9999", 1).number(0, 0), 9999);
        CHECK.faulty("number 0", 2, 7);
        CHECK.faulty("number 0000", 2, 7);
        CHECK.faulty("number 1,0", 2, 9);
        CHECK.faulty("number 1;number 0", 2, 16);
        CHECK.faulty("number -1", 1, 7);
    }

    /** "one behind another ... numbered from 0": those of a later LINE come behind. */
    private static void oneBehindAnother() {
        NumberHeaps x = CHECK.sound("number 5,4;heaps 2;number 3;keep 2 in 1;number 2,1", 5);
        for (int i = 0; i < 5; i++) {
            CHECK.due("3 number " + i, x.number(i, 0), 5 - i);
        }
        CHECK.due("3 kept", x.number(2, 2), 1);
        CHECK.refused("3 no sixth", x.number(5, 0), x, 1);
    }

    /** "10 in all": the tenth, the eleventh, in one LINE or in several. */
    private static void tenInAll() {
        CHECK.sound(TEN, 10);
        CHECK.faulty(TEN + ",11", 4, 28);
        CHECK.faulty(TEN + ";number 11", 4, 35);
        CHECK.sound("number 1,2,3,4,5,6,7,8,9;number 10", 10);
        CHECK.faulty("number 1,2,3,4,5,6,7,8,9;number 10,11", 4, 35);
        CHECK.sound("number 9999,9999,9999,9999,9999,9999,9999,9999,9999,9999", 10);
    }

    /** "2 .. 4". */
    private static void heapsTwoToFour() {
        for (int k = 2; k <= 4; k++) {
            CHECK.due("3 heaps " + k, CHECK.sound("number 1;heaps " + k, 1).about(1), k);
        }
        for (String k : new String[] {"0", "1", "5", "6", "9999", "0001", "0005"}) {
            CHECK.faulty("number 1;heaps " + k, 2, 15);
        }
    }

    /** "2 without; once", ahead of NUMBERS or behind. */
    private static void heapsWithoutAndOnce() {
        CHECK.due("3 without", CHECK.sound("number 1", 1).about(1), 2);
        CHECK.due("3 ahead", CHECK.sound("heaps 4;number 1", 1).about(1), 4);
        CHECK.faulty("heaps 4;number 1;heaps 4", 3, 17);
        CHECK.faulty("number 1;heaps 2;heaps 3", 3, 17);
        // a TEXT behind another tells them anew
        NumberHeaps x = CHECK.sound("number 1;heaps 4", 1);
        CHECK.fine("3 again", Check.text(x, "number 1;heaps 3"), x, 1);
        CHECK.fine("3 without again", Check.text(x, "number 1"), x, 1);
        CHECK.due("3 without again", x.about(1), 2);
        Check.text(x, "number 1;heaps 3;?");
        CHECK.fine("3 behind a FAULT", Check.text(x, "number 1;heaps 4"), x, 1);
        CHECK.due("3 behind a FAULT", x.about(1), 4);
    }

    /** "a NUMBER, told ahead by its place": the first, the last, one behind it, one that is told later. */
    private static void keepPlaces() {
        CHECK.due("3 the first", CHECK.sound("number 1,2,3;keep 0 in 1", 3).number(0, 2), 1);
        CHECK.due("3 the last", CHECK.sound("number 1,2,3;keep 2 in 1", 3).number(2, 2), 1);
        CHECK.faulty("number 1,2,3;keep 3 in 1", 2, 18);
        CHECK.faulty("number 1,2,3;keep 9999 in 1", 2, 18);
        CHECK.faulty("number 1,2,3;keep 3 in 1;number 4", 2, 18);
        CHECK.sound("number 1,2,3;number 4;keep 3 in 1", 4);
        CHECK.faulty("keep 0 in 1;number 4", 2, 5);
        CHECK.due("3 the tenth", CHECK.sound(TEN + ";keep 9 in 3", 10).number(9, 2), 3);
        CHECK.faulty(TEN + ";keep 10 in 3", 2, 33);
    }

    /** "that HEAP 0 .. 3", however many HEAPS there are. */
    private static void keepHeaps() {
        for (int h = 0; h <= 3; h++) {
            CHECK.due("3 in " + h, CHECK.sound("number 1;heaps 2;keep 0 in " + h, 1).number(0, 2), h);
        }
        CHECK.faulty("number 1;heaps 4;keep 0 in 4", 2, 27);
        CHECK.faulty("number 1;heaps 2;keep 0 in 4", 2, 27);
        CHECK.faulty("number 1;keep 0 in 9999", 2, 19);
    }

    /** "once for each": again in the same HEAP or in another, at the NUMBER's place. */
    private static void keepOnceForEach() {
        CHECK.faulty("number 1;keep 0 in 1;keep 0 in 1", 3, 26);
        CHECK.faulty("number 1;keep 0 in 0;keep 0 in 1", 3, 26);
        CHECK.faulty("number 1;keep 0 in 3;keep 0", 3, 26);
        CHECK.faulty("number 1,2;keep 0 in 3;keep 1 in 3;keep 0 in 3", 3, 40);
        CHECK.due("3 two in one HEAP", CHECK.sound("number 1,2;keep 0 in 3;keep 1 in 3", 2).about(3), 2);
    }

    /** "two ... NUMBERS told ahead, by their places". */
    private static void apartPlaces() {
        CHECK.due("3 the first and the last", CHECK.sound(TEN + ";apart 0 9", 10).number(0, 3), 512);
        CHECK.due("3 the last and the first", CHECK.sound(TEN + ";apart 9 0", 10).number(9, 3), 1);
        CHECK.faulty(TEN + ";apart 10 0", 2, 34);
        CHECK.faulty(TEN + ";apart 0 10", 2, 36);
        CHECK.faulty("number 1,2;apart 2 0", 2, 17);
        CHECK.faulty("number 1,2;apart 0 2", 2, 19);
        CHECK.faulty("number 1,2;apart 0 2;number 3", 2, 19);
        CHECK.faulty("number 1,2;apart 9999 9999", 2, 17);
        CHECK.faulty("apart 0 1;number 1,2", 2, 6);
        CHECK.faulty("number 1;apart 0 1", 2, 17);
        CHECK.faulty("number 1;apart 0 0", 3, 17);
    }

    /** "two unlike NUMBERS": unlike by their places; their values may be like. */
    private static void apartUnlike() {
        CHECK.sound("number 7,7;apart 0 1", 2);
        CHECK.faulty("number 7,7;apart 0 0", 3, 19);
        CHECK.faulty("number 7,7;apart 1 1", 3, 19);
        CHECK.faulty("number 7,7;apart 01 1", 3, 20);
    }

    /** "up to 6": the sixth, the seventh at that WORD, whatever stands behind it. */
    private static void apartUpToSix() {
        CHECK.due("3 six", CHECK.sound(SIX, 4).about(4), 6);
        CHECK.faulty(SIX + ";apart 0 1", 4, SIX.length() + 1);
        CHECK.faulty(SIX + ";apart", 4, SIX.length() + 1);
        CHECK.faulty(SIX + ";apart ?", 4, SIX.length() + 1);
        CHECK.faulty(SIX + ";number 5;apart 0 4", 4, SIX.length() + 10);
        CHECK.sound(SIX + ";number 5;heaps 4;keep 0 in 3", 5);
    }

    /** "each two once, in whatever order". */
    private static void apartEachTwoOnce() {
        CHECK.faulty("number 1,2;apart 0 1;apart 0 1", 3, 29);
        CHECK.faulty("number 1,2;apart 0 1;apart 1 0", 3, 29);
        CHECK.faulty("number 1,2;apart 1 0;apart 0 1", 3, 29);
        CHECK.faulty("number 1,2;apart 1 0;apart 1 0", 3, 29);
        NumberHeaps x = CHECK.sound("number 1,2,3;apart 0 1;apart 2 1;apart 2 0", 3);
        for (int i = 0; i < 3; i++) {
            CHECK.due("3 apart from " + i, x.number(i, 3), 7 - (1 << i));
        }
    }
}
