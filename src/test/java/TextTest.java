/** Promises 1 to 5 and 42: a new object, feed, text, fault, where, bytes. */
public final class TextTest {
    private static final Check CHECK = new Check("TextTest");

    public static void main(String[] args) {
        newObject();
        feeding();
        readTexts();
        forms();
        bounds();
        again();
        tooMany();
        noNumber();
        firstFromTheLeft();
        whatATextLeaves();
        whereGoes();
        CHECK.end();
    }

    private static void newObject() {
        NumberHeaps x = new NumberHeaps();
        CHECK.due("1 trouble", x.trouble(), 0);
        CHECK.due("1 fault", x.fault(), 0);
        CHECK.due("1 where", x.where(), NumberHeaps.NONE);
        CHECK.due("1 bytes", x.bytes(), 0);
        CHECK.refused("1 about", x.about(0), x, 1);
        CHECK.octets("1", x, "");
        CHECK.due("1 NONE", NumberHeaps.NONE, -1);
    }

    private static void feeding() {
        NumberHeaps x = new NumberHeaps();
        x.about(0);
        for (int turn = 1; turn <= 15; turn++) {
            CHECK.due("2 feed", x.feed(turn, -1, 0, 0x41424344, 5), 20 * turn);
            CHECK.due("42 bytes", x.bytes(), 20 * turn);
        }
        CHECK.due("2 feed beyond 300", x.feed(1, 2, 3, 4, 5), NumberHeaps.NONE);
        CHECK.due("2 bytes then", x.bytes(), 300);
        CHECK.due("2 trouble stays", x.trouble(), 1);
        CHECK.refused("3 n beyond", x.text(301), x, 2);
        CHECK.due("2 bytes stay", x.bytes(), 300);
        CHECK.refused("3 a byte that begins no TOKEN", x.text(300), x, 4);
        CHECK.due("2 feed again", x.feed(1, 2, 3, 4, 5), 20);
        CHECK.due("2 trouble stays", x.trouble(), 4);
        CHECK.due("5 where stays", x.where(), 0);
        orderOfBytes();
        fullTape();
    }

    private static void orderOfBytes() {
        NumberHeaps x = new NumberHeaps();
        x.feed(0x6e756d62, 0x65722031, 0x32333420, 0x2c353637, 0x38202020);
        CHECK.fine("2 number 1234 ,5678", x.text(20), x, 2);
        CHECK.due("2 the first", x.number(0, 0), 1234);
        CHECK.due("2 the second", x.number(1, 0), 5678);
    }

    private static void fullTape() {
        StringBuilder text = new StringBuilder("number 7");
        while (text.length() < 298) {
            text.append(' ');
        }
        NumberHeaps x = new NumberHeaps();
        CHECK.fine("3 300 bytes", Check.text(x, text.append(",3").toString()), x, 2);
        CHECK.due("3 the last byte counts", x.number(1, 0), 3);
    }

    private static void readTexts() {
        CHECK.sound("number 1", 1);
        CHECK.sound("number 9999", 1);
        CHECK.sound("number 0001,0009", 2);
        CHECK.sound("number1,2;number3", 3);
        CHECK.sound("  number  1 , 2  ;  heaps  4  ", 2);
        CHECK.sound("heaps2;number 5", 1);
        CHECK.sound("heaps 2;number 5", 1);
        CHECK.sound("number 1,2,3,4,5,6,7,8,9,10", 10);
        CHECK.sound("number 1,2,3,4,5;number 6,7,8,9,10", 10);
        CHECK.sound("number 5,5;keep 0 in 3;keep1in0;apart 1 0", 2);
        CHECK.sound("number 1,2,3,4;apart 0 1;apart 0 2;apart 0 3;apart 1 2;apart 1 3;apart 2 3", 4);
        NumberHeaps x = Check.of("number 3,1,4;heaps 4;keep 2 in 3;apart 0 2");
        CHECK.due("3 third", x.number(2, 0), 4);
        CHECK.due("3 heaps", x.about(1), 4);
        CHECK.due("3 kept", x.number(2, 2), 3);
        CHECK.due("3 apart", x.number(2, 3), 1);
        CHECK.due("3 apart", x.number(0, 3), 4);
        CHECK.due("3 tape is empty", x.bytes(), 0);
        CHECK.due("3 heaps without", Check.of("number 5").about(1), 2);
        NumberHeaps part = new NumberHeaps();
        Check.feed(part, Check.bytesOf("number 12"));
        CHECK.fine("3 the first bytes", part.text(8), part, 1);
        CHECK.due("3 only these", part.number(0, 0), 1);
        CHECK.refused("3 n below 0", part.text(-1), part, 2);
        CHECK.refused("3 n beyond the tape", part.text(1), part, 2);
    }

    private static void forms() {
        CHECK.faulty("", 1, 0);
        CHECK.faulty("   ", 1, 3);
        CHECK.faulty("number", 1, 6);
        CHECK.faulty("number   ", 1, 9);
        CHECK.faulty("number 1,", 1, 9);
        CHECK.faulty("number 1;", 1, 9);
        CHECK.faulty("number 1; ;", 1, 10);
        CHECK.faulty(";number 1", 1, 0);
        CHECK.faulty("number ,1", 1, 7);
        CHECK.faulty("number 1 2", 1, 9);
        CHECK.faulty("number 1,,2", 1, 9);
        CHECK.faulty("number 10000", 1, 7);
        CHECK.faulty("number 1,123456", 1, 9);
        CHECK.faulty("numbers 1", 1, 0);
        CHECK.faulty("numbe 1", 1, 0);
        CHECK.faulty("Number 1", 1, 0);
        CHECK.faulty("number 1.", 1, 8);
        CHECK.faulty("number 1\t", 1, 8);
        CHECK.faulty("number -1", 1, 7);
        CHECK.faulty("number 1" + (char) 233, 1, 8);
        CHECK.faulty("number 1" + (char) 0, 1, 8);
        CHECK.faulty("12", 1, 0);
        CHECK.faulty("in", 1, 0);
        CHECK.faulty("number number", 1, 7);
        CHECK.faulty("number 1 number 2", 1, 9);
        CHECK.faulty("number 1;heaps", 1, 14);
        CHECK.faulty("number 1;heaps ,", 1, 15);
        CHECK.faulty("number 1;heaps 2,3", 1, 16);
        CHECK.faulty("number 1;keep in 1", 1, 14);
        CHECK.faulty("number 1;keep 0 1", 1, 16);
        CHECK.faulty("number 1;keep 0 inn 1", 1, 16);
        CHECK.faulty("number 1;keep 0 in", 1, 18);
        CHECK.faulty("number 1;keep 0 in in", 1, 19);
        CHECK.faulty("number 1;keep 0 in 1,", 1, 20);
        CHECK.faulty("number 1,2;apart 0,1", 1, 18);
        CHECK.faulty("number 1,2;apart 0", 1, 18);
        CHECK.faulty("number 1,2;apart;", 1, 16);
        CHECK.faulty("number 1,2;apart 0 1 0", 1, 21);
        CHECK.faulty("number 1;abcdefg", 1, 9);
        CHECK.faulty("heaps 12345", 1, 6);
        CHECK.faulty("lumber 1", 1, 0);
        CHECK.faulty("leaps 2;number 1", 1, 0);
        CHECK.faulty("number 1;beep 0 in 1", 1, 9);
        CHECK.faulty("number 1;keep 0 on 1", 1, 16);
        CHECK.faulty("number 1,1;spart 0 1", 1, 11);
        CHECK.faulty("number 1;heapsz 2", 1, 9);
        CHECK.faulty("number 1;keepaz", 1, 9);
        CHECK.faulty("number 1;keep`", 1, 13);
        CHECK.faulty("number 1{", 1, 8);
        CHECK.faulty("number 1/", 1, 8);
        CHECK.faulty("number 1:", 1, 8);
        cutShort("heaps 2;numbers", 14, 1, 14);
        cutShort("number 1;heaps 22222", 16, 0, NumberHeaps.NONE);
        cutShort("number 1 2", 9, 0, NumberHeaps.NONE);
    }

    private static void bounds() {
        CHECK.faulty("number 0", 2, 7);
        CHECK.faulty("number 0000", 2, 7);
        CHECK.faulty("number 5,0", 2, 9);
        CHECK.faulty("number 1;heaps 1", 2, 15);
        CHECK.faulty("number 1;heaps 5", 2, 15);
        CHECK.faulty("number 1;heaps 0002;heaps 9", 3, 20);
        CHECK.faulty("number 1;keep 1 in 0", 2, 14);
        CHECK.faulty("number 1;keep 0 in 4", 2, 19);
        CHECK.faulty("keep 0 in 1;number 1", 2, 5);
        CHECK.faulty("number 1,2;apart 2 0", 2, 17);
        CHECK.faulty("number 1,2;apart 0 2", 2, 19);
        CHECK.faulty("number 1,2;apart 0 2;number 3", 2, 19);
        CHECK.faulty("apart 0 1", 2, 6);
        CHECK.faulty("number 1,2,3,4,5,6,7,8,9,10,0", 2, 28);
    }

    private static void again() {
        CHECK.faulty("heaps 2;heaps", 3, 8);
        CHECK.faulty("heaps 2;number 1;heaps 3", 3, 17);
        CHECK.faulty("number 1;keep 0 in 1;keep 0 in 1", 3, 26);
        CHECK.faulty("number 1;keep 0 in 1;keep 00,", 3, 26);
        CHECK.faulty("number 1,1;apart 0 0", 3, 19);
        CHECK.faulty("number 1,1;apart 0 1;apart 0 1", 3, 29);
        CHECK.faulty("number 1,1;apart 0 1;apart 1 0", 3, 29);
        CHECK.sound("number 1,1;keep 0 in 1;keep 1 in 1", 2);
    }

    private static void tooMany() {
        CHECK.faulty("number 1,2,3,4,5,6,7,8,9,10,11", 4, 28);
        CHECK.faulty("number 1,2,3,4,5,6,7,8,9,10;number 11", 4, 35);
        String six = "number 1,2,3,4;apart 0 1;apart 0 2;apart 0 3;apart 1 2;apart 1 3;apart 2 3";
        CHECK.faulty(six + ";apart 0 1", 4, six.length() + 1);
        CHECK.faulty(six + ";apart", 4, six.length() + 1);
    }

    private static void noNumber() {
        CHECK.faulty("heaps 3", 5, 7);
        CHECK.faulty("heaps 3  ", 5, 9);
        CHECK.faulty("heaps 3;", 1, 8);
    }

    private static void firstFromTheLeft() {
        CHECK.faulty("number 0;?", 2, 7);
        CHECK.faulty("?number 0", 1, 0);
        CHECK.faulty("number 1;heaps 9;heaps 2", 2, 15);
        CHECK.faulty("number 1;keep 0 in 9;abcdefgh", 2, 19);
    }

    private static void whatATextLeaves() {
        NumberHeaps x = Check.of("number 5,6;heaps 3");
        x.image(1);
        x.add(4);
        CHECK.due("3 refused", Check.text(x, "number 0"), NumberHeaps.NONE);
        CHECK.due("4 fault", x.fault(), 2);
        CHECK.due("3 the tape is empty", x.bytes(), 0);
        CHECK.due("3 the TEXT stays", x.about(0), 3);
        CHECK.due("3 the HEAPS stay", x.about(1), 3);
        CHECK.due("3 the ACTS stay", x.about(5), 1);
        CHECK.refused("3 by 2", x.text(7), x, 2);
        CHECK.due("4 fault stays", x.fault(), 2);
        CHECK.due("3 sound", Check.text(x, "number 9"), 1);
        CHECK.due("4 fault", x.fault(), 0);
        CHECK.due("3 one NUMBER", x.about(0), 1);
        CHECK.due("3 HEAPS again 2", x.about(1), 2);
        CHECK.due("3 no ACTS", x.about(5), 0);
        CHECK.refused("3 nothing to undo", x.undo(), x, 5);
        CHECK.due("3 no IMAGE", x.back(1), false);
        x.image(0);
        Check.text(x, "number 9");
        CHECK.due("3 no IMAGE", x.back(0), false);
        Check.text(x, "heaps 3;number 9");
        CHECK.due("3 heaps again in another TEXT", Check.text(x, "heaps 4;number 9"), 1);
        Check.text(x, "number 9");
        Check.text(x, "number 9,8;keep 0 in 1;apart 0 1");
        Check.text(x, "number 9,8");
        CHECK.due("3 none kept", x.about(3), 0);
        CHECK.due("3 none apart", x.about(4), 0);
    }

    private static void whereGoes() {
        NumberHeaps x = new NumberHeaps();
        Check.text(x, "number 1,0");
        CHECK.due("5 where", x.where(), 9);
        CHECK.due("5 where again", x.where(), 9);
        x.feed(0, 0, 0, 0, 0);
        x.bytes();
        x.fault();
        x.trouble();
        CHECK.octets("5", x, "");
        CHECK.due("5 where stays", x.where(), 9);
        x.back(0);
        CHECK.due("5 a call refused by another", x.where(), NumberHeaps.NONE);
        CHECK.due("4 fault stays", x.fault(), 2);
        Check.text(x, "x");
        CHECK.due("5 where", x.where(), 0);
        Check.text(x, "number 1");
        Check.text(x, "numb");
        x.about(0);
        CHECK.due("5 a call not refused", x.where(), NumberHeaps.NONE);
        CHECK.due("4 fault stays", x.fault(), 1);
        Check.text(x, "numb");
        x.text(9);
        CHECK.due("5 refused by 2", x.where(), NumberHeaps.NONE);
    }

    /** What stands behind the first n bytes counts for nothing. */
    private static void cutShort(String text, int n, int fault, int where) {
        NumberHeaps x = new NumberHeaps();
        Check.feed(x, Check.bytesOf(text));
        CHECK.due("3 the first " + n + " of '" + text + "'", x.text(n), fault == 0 ? 1 : NumberHeaps.NONE);
        CHECK.due("4 fault of it", x.fault(), fault);
        CHECK.due("5 where of it", x.where(), where);
    }
}
