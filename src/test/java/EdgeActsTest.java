/** The edges of ACTS, undo and IMAGES: 'Terms' III and promises 30 (add) to 39 (back). */
public final class EdgeActsTest {
    private static final Check CHECK = new Check("EdgeActsTest");

    private static final String TEN = "number 1,2,3,4,5,6,7,8,9,10";
    private static final String SIX = "number 1,2,3,4,5;apart 0 1;apart 0 2;apart 0 3;apart 1 2;apart 1 3;apart 2 3";

    public static void main(String[] args) {
        leastAndGreatestAdded();
        tenNumbersAndOneMore();
        addedIsTheLast();
        dropTheFirstAndTheLast();
        dropTheOnlyOne();
        whatGoesWithADroppedOne();
        leastAndGreatestBecome();
        leastAndGreatestHeapKept();
        keptInNoneAnyMore();
        apartAndNotAnyMore();
        sixApartAndOneMore();
        apartOfOneNumber();
        sortNothingAndAll();
        keptApartSortedWithThem();
        heapsTwoToFour();
        CHECK.end();
    }

    /** "a NUMBER more (1 .. 9,999)". */
    private static void leastAndGreatestAdded() {
        NumberHeaps x = CHECK.sound("number 5", 1);
        CHECK.fine("30 the least", x.add(1), x, 2);
        CHECK.fine("30 the greatest", x.add(9999), x, 3);
        CHECK.refused("30 0", x.add(0), x, 2);
        CHECK.refused("30 10,000", x.add(10000), x, 2);
        CHECK.refused("30 -1", x.add(-1), x, 2);
        numbers("30", x, 5, 1, 9999);
        CHECK.due("30 two ACTS", x.about(5), 2);
    }

    /** "3 (ten)": the tenth comes, the eleventh doesn't, until one goes; 2 is told ahead of 3. */
    private static void tenNumbersAndOneMore() {
        NumberHeaps x = CHECK.sound("number 1,2,3,4,5,6,7,8,9", 9);
        CHECK.fine("30 the tenth", x.add(10), x, 10);
        CHECK.refused("30 the eleventh", x.add(11), x, 3);
        CHECK.refused("30 the eleventh, 0", x.add(0), x, 2);
        CHECK.refused("30 the eleventh, 10,000", x.add(10000), x, 2);
        numbers("30", x, 1, 2, 3, 4, 5, 6, 7, 8, 9, 10);
        CHECK.due("30 one ACT", x.about(5), 1);
        CHECK.fine("31 room", x.drop(0), x, 1);
        CHECK.fine("30 the tenth again", x.add(11), x, 10);
        CHECK.refused("30 no room again", x.add(12), x, 3);
        numbers("30", x, 2, 3, 4, 5, 6, 7, 8, 9, 10, 11);
    }

    /** "the last": kept in none, apart from none, though one of its place was. */
    private static void addedIsTheLast() {
        NumberHeaps x = CHECK.sound("number 4,6;keep 1 in 2;apart 0 1", 2);
        x.drop(1);
        CHECK.fine("30", x.add(8), x, 2);
        CHECK.due("30 kept", x.number(1, 2), -2);
        CHECK.due("30 apart", x.number(1, 3), 0);
        CHECK.due("30 apart of the other", x.number(0, 3), 0);
        CHECK.due("30 kept", x.about(3), 0);
        CHECK.due("30 apart", x.about(4), 0);
    }

    private static void dropTheFirstAndTheLast() {
        NumberHeaps x = CHECK.sound(TEN, 10);
        CHECK.fine("31 the last", x.drop(9), x, 10);
        CHECK.refused("31 there is none any more", x.drop(9), x, 1);
        CHECK.fine("31 the first", x.drop(0), x, 1);
        numbers("31", x, 2, 3, 4, 5, 6, 7, 8, 9);
        CHECK.refused("31 -1", x.drop(-1), x, 1);
        CHECK.refused("31 8", x.drop(8), x, 1);
        CHECK.due("31 two ACTS", x.about(5), 2);
    }

    /** "5 (it is the only one)": 1 is told ahead of 5; one of two can go. */
    private static void dropTheOnlyOne() {
        NumberHeaps x = CHECK.sound("number 3,4", 2);
        CHECK.fine("31 one of two", x.drop(0), x, 3);
        CHECK.refused("31 the only one", x.drop(0), x, 5);
        CHECK.refused("31 1 ahead of 5", x.drop(1), x, 1);
        CHECK.refused("31 1 ahead of 5", x.drop(-1), x, 1);
        numbers("31", x, 4);
        CHECK.due("31 one ACT", x.about(5), 1);
    }

    /** "a NUMBER goes, and all that was kept, apart by it; those behind it move up (kept, apart with them)". */
    private static void whatGoesWithADroppedOne() {
        String text = TEN + ";keep 0 in 0;keep 4 in 1;keep 9 in 3;apart 0 4;apart 4 9;apart 0 9;apart 3 5;apart 8 9";
        NumberHeaps middle = CHECK.sound(text, 10);
        CHECK.fine("31 the fifth", middle.drop(4), middle, 5);
        kept(middle, 0, -2, -2, -2, -2, -2, -2, -2, 3);
        apart(middle, 256, 0, 0, 16, 8, 0, 0, 256, 129);
        NumberHeaps first = CHECK.sound(text, 10);
        CHECK.fine("31 the first", first.drop(0), first, 1);
        kept(first, -2, -2, -2, 1, -2, -2, -2, -2, 3);
        apart(first, 0, 0, 16, 256, 4, 0, 0, 256, 136);
        NumberHeaps last = CHECK.sound(text, 10);
        CHECK.fine("31 the last", last.drop(9), last, 10);
        kept(last, 0, -2, -2, -2, 1, -2, -2, -2, -2);
        apart(last, 16, 0, 0, 32, 1, 8, 0, 0, 0);
        // room for six again
        NumberHeaps six = CHECK.sound(SIX, 5);
        six.drop(0);
        CHECK.due("31 three go", six.about(4), 3);
        CHECK.fine("34 room", six.apart(0, 3), six, 4);
    }

    /** "a NUMBER becomes v: what it was". */
    private static void leastAndGreatestBecome() {
        NumberHeaps x = CHECK.sound("number 5,6", 2);
        CHECK.fine("32 the first, the greatest", x.become(0, 9999), x, 5);
        CHECK.fine("32 the last, the least", x.become(1, 1), x, 6);
        CHECK.fine("32 the same again", x.become(1, 1), x, 1);
        CHECK.refused("32 0", x.become(0, 0), x, 2);
        CHECK.refused("32 10,000", x.become(0, 10000), x, 2);
        CHECK.refused("32 no NUMBER", x.become(2, 1), x, 1);
        CHECK.refused("32 no NUMBER", x.become(-1, 1), x, 1);
        CHECK.refused("32 1 ahead of 2", x.become(2, 0), x, 1);
        numbers("32", x, 9999, 1);
        CHECK.due("32 three ACTS", x.about(5), 3);
    }

    /** "kept in a HEAP h (0 .. 3)", however many HEAPS there are. */
    private static void leastAndGreatestHeapKept() {
        NumberHeaps x = CHECK.sound("number 5,6;heaps 2", 2);
        CHECK.fine("33 the least", x.keepIn(0, 0), x, -2);
        CHECK.fine("33 the greatest", x.keepIn(0, 3), x, 0);
        CHECK.fine("33 the last NUMBER", x.keepIn(1, 3), x, -2);
        CHECK.refused("33 4", x.keepIn(0, 4), x, 2);
        CHECK.refused("33 -1", x.keepIn(0, -1), x, 2);
        CHECK.refused("33 -3", x.keepIn(0, -3), x, 2);
        CHECK.refused("33 no NUMBER", x.keepIn(2, 0), x, 1);
        CHECK.refused("33 no NUMBER", x.keepIn(-1, 0), x, 1);
        CHECK.refused("33 1 ahead of 2", x.keepIn(2, 4), x, 1);
        kept(x, 3, 3);
        CHECK.due("33 three ACTS", x.about(5), 3);
    }

    /** "or in none any more (h -2): in which it was (-2)": -2 is told of one that was kept in none. */
    private static void keptInNoneAnyMore() {
        NumberHeaps x = CHECK.sound("number 5;keep 0 in 2", 1);
        CHECK.fine("33 in none", x.keepIn(0, -2), x, 2);
        kept(x, -2);
        CHECK.fine("33 in none again", x.keepIn(0, -2), x, -2);
        kept(x, -2);
        CHECK.due("33 two ACTS", x.about(5), 2);
        CHECK.fine("33 kept again", x.keepIn(0, 1), x, -2);
        CHECK.due("33 one kept", x.about(3), 1);
    }

    /** "two NUMBERS are apart, or not any more, if they were: how many are", in whatever order. */
    private static void apartAndNotAnyMore() {
        NumberHeaps x = CHECK.sound(TEN, 10);
        CHECK.fine("34 the first and the last", x.apart(0, 9), x, 1);
        apart(x, 512, 0, 0, 0, 0, 0, 0, 0, 0, 1);
        CHECK.fine("34 in the other order", x.apart(9, 0), x, 0);
        apart(x, 0, 0, 0, 0, 0, 0, 0, 0, 0, 0);
        CHECK.fine("34 again", x.apart(9, 0), x, 1);
        CHECK.fine("34 not any more", x.apart(9, 0), x, 0);
        CHECK.due("34 four ACTS", x.about(5), 4);
        CHECK.refused("34 no NUMBER", x.apart(10, 0), x, 1);
        CHECK.refused("34 no NUMBER", x.apart(0, 10), x, 1);
        CHECK.refused("34 no NUMBER", x.apart(-1, 0), x, 1);
        CHECK.refused("34 no NUMBER", x.apart(0, -1), x, 1);
        // two told by the TEXT are apart no less
        NumberHeaps told = CHECK.sound("number 1,2;apart 1 0", 2);
        CHECK.fine("34 told by the TEXT", told.apart(0, 1), told, 0);
    }

    /** "3 (six are)": the sixth, the seventh; one of the six can still be taken back, and then another comes. */
    private static void sixApartAndOneMore() {
        NumberHeaps x = CHECK.sound("number 1,2,3,4,5;apart 0 1;apart 0 2;apart 0 3;apart 1 2;apart 1 3", 5);
        CHECK.fine("34 the sixth", x.apart(2, 3), x, 6);
        CHECK.refused("34 the seventh", x.apart(0, 4), x, 3);
        CHECK.refused("34 the seventh", x.apart(4, 0), x, 3);
        CHECK.refused("34 1 ahead of 3", x.apart(0, 5), x, 1);
        CHECK.refused("34 1 ahead of 3", x.apart(-1, 0), x, 1);
        CHECK.due("34 six", x.about(4), 6);
        CHECK.due("34 one ACT", x.about(5), 1);
        CHECK.fine("34 one goes", x.apart(1, 0), x, 5);
        CHECK.fine("34 another comes", x.apart(4, 0), x, 6);
        CHECK.refused("34 six again", x.apart(0, 1), x, 3);
        apart(x, 28, 12, 11, 7, 1);
    }

    /** "5 (one NUMBER)": 1 and 3 are told ahead of it. */
    private static void apartOfOneNumber() {
        NumberHeaps x = CHECK.sound("number 1,2,3", 3);
        CHECK.refused("34 the first", x.apart(0, 0), x, 5);
        CHECK.refused("34 the last", x.apart(2, 2), x, 5);
        CHECK.refused("34 1 ahead of 5", x.apart(3, 3), x, 1);
        CHECK.refused("34 1 ahead of 5", x.apart(-1, -1), x, 1);
        CHECK.due("34 no ACT", x.about(5), 0);
        NumberHeaps six = CHECK.sound(SIX, 5);
        CHECK.refused("34 3 ahead of 5", six.apart(4, 4), six, 3);
        CHECK.refused("34 3 ahead of 5", six.apart(0, 0), six, 3);
        six.apart(0, 1);
        CHECK.refused("34 five are", six.apart(0, 0), six, 5);
        NumberHeaps one = CHECK.sound("number 1", 1);
        CHECK.refused("34 the only one", one.apart(0, 0), one, 5);
    }

    /** "how many have another place": none, two, all. */
    private static void sortNothingAndAll() {
        sorts("number 7", 0, 7);
        sorts("number 7,7,7", 0, 7, 7, 7);
        sorts("number 9,8,7", 0, 9, 8, 7);
        sorts("number 9,7,8", 2, 9, 8, 7);
        sorts("number 8,9", 2, 9, 8);
        sorts("number 7,8,9", 2, 9, 8, 7);
        // the like ones change their places, too
        sorts("number 1,2,2", 3, 2, 2, 1);
        sorts("number 1,1,2", 3, 2, 1, 1);
        sorts(TEN, 10, 10, 9, 8, 7, 6, 5, 4, 3, 2, 1);
    }

    private static void sorts(String text, int due, int... values) {
        NumberHeaps x = CHECK.sound(text, values.length);
        CHECK.fine("35 '" + text + "'", x.sort(), x, due);
        numbers("35 '" + text + "'", x, values);
        CHECK.due("35 one ACT", x.about(5), 1);
        CHECK.fine("35 again", x.sort(), x, 0);
        CHECK.due("35 again an ACT", x.about(5), 2);
    }

    /** "(kept, apart with them)", of like ones each with its own. */
    private static void keptApartSortedWithThem() {
        NumberHeaps x = CHECK.sound("number 3,9,3,5;keep 0 in 1;keep 2 in 2;keep 3 in 3;apart 0 1;apart 2 3", 4);
        // 9 (1), 5 (3), 3 (0), 3 (2): all have another place
        CHECK.fine("35", x.sort(), x, 4);
        numbers("35", x, 9, 5, 3, 3);
        kept(x, -2, 3, 1, 2);
        apart(x, 4, 8, 1, 2);
        CHECK.fine("37", x.undo(), x, 0);
        numbers("37", x, 3, 9, 3, 5);
        kept(x, 1, -2, 2, 3);
        apart(x, 2, 1, 8, 4);
    }

    /** "HEAPS are k: what they were"; 2 .. 4; what is kept beyond them stays. */
    private static void heapsTwoToFour() {
        NumberHeaps x = CHECK.sound("number 5;keep 0 in 3", 1);
        CHECK.refused("36 1", x.heaps(1), x, 2);
        CHECK.refused("36 5", x.heaps(5), x, 2);
        CHECK.due("36 as they were", x.about(1), 2);
        CHECK.due("36 no ACT", x.about(5), 0);
        CHECK.fine("36 the greatest", x.heaps(4), x, 2);
        CHECK.fine("36 the least", x.heaps(2), x, 4);
        CHECK.fine("36 the same", x.heaps(2), x, 2);
        CHECK.fine("36", x.heaps(3), x, 2);
        kept(x, 3);
        CHECK.due("36 four ACTS", x.about(5), 4);
        NumberHeaps none = new NumberHeaps();
        CHECK.refused("36 no TEXT ahead of k", none.heaps(1), none, 1);
    }

    private static void numbers(String call, NumberHeaps x, int... values) {
        CHECK.due(call + " how many", x.about(0), values.length);
        for (int i = 0; i < values.length; i++) {
            CHECK.due(call + " number " + i, x.number(i, 0), values[i]);
        }
    }

    private static void kept(NumberHeaps x, int... heaps) {
        CHECK.due("how many", x.about(0), heaps.length);
        for (int i = 0; i < heaps.length; i++) {
            CHECK.due("kept " + i, x.number(i, 2), heaps[i]);
        }
    }

    private static void apart(NumberHeaps x, int... bits) {
        CHECK.due("how many", x.about(0), bits.length);
        for (int i = 0; i < bits.length; i++) {
            CHECK.due("apart " + i, x.number(i, 3), bits[i]);
        }
    }
}
