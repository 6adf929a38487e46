/** The edges of FAULTS: which is told of several, and where; promises 3 (text: 4), 4 (fault) and 5 (where). */
public final class EdgeFaultTest {
    private static final Check CHECK = new Check("EdgeFaultTest");

    private static final String TEN = "number 1,2,3,4,5,6,7,8,9,10";
    private static final String SIX = "number 1,2,3,4;apart 0 1;apart 0 2;apart 0 3;apart 1 2;apart 1 3;apart 2 3";
    private static final int NONE = NumberHeaps.NONE;

    public static void main(String[] args) {
        firstFromTheLeft();
        leastOfOneTokenIsForm();
        leastOfOneTokenIsBounds();
        leastAtTheEnd();
        everyTokenThatMayEndATextTooEarly();
        everyTokenWithWhichNoTextGoesOn();
        theEnd();
        theEndOfTheFirstBytes();
        aTokenCutShort();
        fiveAtTheEnd();
        faultAheadOfAny();
        faultOfTheLatest();
        whereOnlyBehindFour();
        CHECK.end();
    }

    /** "Told is the first TOKEN, from the left, at which one is found", whatever its number is. */
    private static void firstFromTheLeft() {
        String[] texts = {"number 0;?", "number 1;heaps 5;?", "number 1;heaps 2;heaps ?", TEN + ",11,?",
            SIX + ";apart ?"};
        int[] faults = {2, 2, 3, 4, 4};
        int[] wheres = {7, 15, 17, 28, SIX.length() + 1};
        for (int t = 0; t < texts.length; t++) {
            CHECK.faulty(texts[t], faults[t], wheres[t]);
            CHECK.faulty("? " + texts[t], 1, 0);
        }
        CHECK.faulty("number 1;keep 0 in 4;keep 1 in 1", 2, 19);
        CHECK.faulty("number 1;keep 0 in 1;keep 0 in 4", 3, 26);
        CHECK.faulty("number 1,2;apart 0 0;heaps 1", 3, 19);
        CHECK.faulty("number 1,2;heaps 1;apart 0 0", 2, 17);
        CHECK.faulty("heaps 2;heaps 2", 3, 8);
        CHECK.faulty("heaps 2;heaps 9;number 1", 3, 8);
        CHECK.faulty("heaps 1;heaps 1", 2, 6);
        CHECK.faulty(TEN + ",11,0", 4, 28);
        CHECK.faulty(TEN + ",0,11", 2, 28);
    }

    /** "of one TOKEN the least number": 1 ahead of 2, 3, 4. */
    private static void leastOfOneTokenIsForm() {
        CHECK.faulty("number 1;heaps 00009", 1, 15);
        CHECK.faulty("number 1;keep 0 in 1;keep 00000 in 1", 1, 26);
        CHECK.faulty("number 1,2;apart 0 00000", 1, 19);
        CHECK.faulty(TEN + ",00011", 1, 28);
        CHECK.faulty(TEN + " 11", 1, 28);
        CHECK.faulty("heaps 2 heaps 2", 1, 8);
        CHECK.faulty("number 1;heaps 2,heaps 2", 1, 16);
        CHECK.faulty(SIX + " apart 0 1", 1, SIX.length() + 1);
        CHECK.faulty(SIX + ";heaps apart", 1, SIX.length() + 7);
        CHECK.faulty("number 1;keep 0 in 1;keep heaps", 1, 26);
    }

    /** "of one TOKEN the least number": 2 ahead of 3, 4. */
    private static void leastOfOneTokenIsBounds() {
        CHECK.faulty(TEN + ",0", 2, 28);
        CHECK.faulty(TEN + ";number 0", 2, 35);
        CHECK.faulty("number 1,2;apart 0 1;apart 0 2", 2, 29);
        CHECK.faulty("number 1;keep 0 in 1;keep 1 in 1", 2, 26);
    }

    /** "of one TOKEN the least number", that of the end: 1 ahead of 5. */
    private static void leastAtTheEnd() {
        CHECK.faulty("", 1, 0);
        CHECK.faulty("heaps", 1, 5);
        CHECK.faulty("heaps 2;", 1, 8);
        CHECK.faulty("number", 1, 6);
        CHECK.faulty("heaps 2", 5, 7);
    }

    /** "a TOKEN with which no TEXT goes on (the end: how many bytes there are)": a sound TEXT cut behind each TOKEN. */
    private static void everyTokenThatMayEndATextTooEarly() {
        String[] tokens = "number 1 , 2 ; heaps 3 ; keep 0 in 1 ; apart 0 1".split(" ");
        // of each TOKEN, by LINES: whether a TEXT may end behind it
        String sound = "0101" + "0" + "01" + "0" + "0001" + "0" + "001";
        StringBuilder text = new StringBuilder();
        for (int t = 0; t < tokens.length; t++) {
            text.append(t == 0 ? "" : " ").append(tokens[t]);
            if (sound.charAt(t) == '1') {
                CHECK.sound(text.toString(), t < 3 ? 1 : 2);
            } else {
                CHECK.faulty(text.toString(), 1, text.length());
            }
        }
    }

    /** The same with every kind of TOKEN behind each TOKEN; only one kind, or two, go on. */
    private static void everyTokenWithWhichNoTextGoesOn() {
        String[] ahead = {"", "number", "number 1", "number 1,", "number 1;", "number 1;heaps", "number 1;heaps 3",
            "number 1;keep", "number 1;keep 0", "number 1;keep 0 in", "number 1;keep 0 in 1", "number 1,2;apart",
            "number 1,2;apart 0", "number 1,2;apart 0 1"};
        // what goes on there: w a WHOLE, l a LINE's WORD, i in, s ; or c ,
        String[] goesOn = {"l", "w", "sc", "w", "l", "w", "s", "w", "i", "w", "s", "w", "w", "s"};
        String[] tokens = {"1", "number", "heaps", "keep", "apart", "in", ";", ",", "x"};
        String kinds = "wllllisc-";
        for (int a = 0; a < ahead.length; a++) {
            for (int t = 0; t < tokens.length; t++) {
                String text = ahead[a] + " " + tokens[t] + " ?";
                NumberHeaps x = new NumberHeaps();
                Check.text(x, text);
                boolean on = goesOn[a].indexOf(kinds.charAt(t)) >= 0;
                // where it goes on it is told at the ? behind, or at the WHOLE, WORD by another FAULT than FORM
                if (on) {
                    boolean told = x.fault() > 1 || x.where() == text.length() - 1;
                    CHECK.due("3 '" + text + "' goes on", told, true);
                } else {
                    CHECK.due("4 '" + text + "' FORM", x.fault(), 1);
                    CHECK.due("5 '" + text + "' where", x.where(), ahead[a].length() + 1);
                }
            }
        }
    }

    /** "the end: how many bytes there are", blanks among them. */
    private static void theEnd() {
        CHECK.faulty("number", 1, 6);
        CHECK.faulty("number ", 1, 7);
        CHECK.faulty("number      ", 1, 12);
        CHECK.faulty("heaps 2    ", 5, 11);
        StringBuilder full = new StringBuilder("heaps 2");
        while (full.length() < 300) {
            full.append(' ');
        }
        CHECK.faulty(full.toString(), 5, 300);
    }

    /** The bytes are those of the TEXT, not those of THE TAPE. */
    private static void theEndOfTheFirstBytes() {
        cut("number 1", 6, 1, 6);
        cut("number 1;heaps 3", 9, 1, 9);
        cut("heaps 3;number 1", 7, 5, 7);
        cut("heaps 3 ;number 1", 8, 5, 8);
        cut("number 1;?", 8, 0, NONE);
        cut("number 1;heaps 5", 8, 0, NONE);
    }

    /** A TOKEN ends with the TEXT, if that ends within it. */
    private static void aTokenCutShort() {
        cut("number 12345", 11, 0, NONE);
        cut("number 12345", 12, 1, 7);
        cut("number 10", 8, 0, NONE);
        cut("number 01", 8, 2, 7);
        cut("number 1;heaps 22", 16, 0, NONE);
        cut("number 1;heaps 22", 17, 2, 15);
        cut("numbers", 6, 1, 6);
        cut("numbers", 7, 1, 0);
        cut("number 1;apart", 13, 1, 9);
        cut("number 1;keep 0 in 10", 20, 0, NONE);
        cut("number 1;keep 0 in 10", 21, 2, 19);
    }

    /** "5 at the end: no NUMBER": heaps alone; keep and apart can't stand without one. */
    private static void fiveAtTheEnd() {
        CHECK.faulty("heaps 2", 5, 7);
        CHECK.faulty(" heaps 4 ", 5, 9);
        CHECK.faulty("keep 0 in 0", 2, 5);
        CHECK.faulty("apart 0 1", 2, 6);
        CHECK.sound("heaps 2;number 1", 1);
    }

    /** "0 without one, ahead of any". */
    private static void faultAheadOfAny() {
        NumberHeaps x = new NumberHeaps();
        CHECK.due("4 ahead of any", x.fault(), 0);
        x.about(0);
        CHECK.due("4 another call refused", x.fault(), 0);
        x.text(1);
        CHECK.due("4 refused by 2", x.fault(), 0);
        Check.feed(x, Check.bytesOf("?"));
        CHECK.due("4 fed", x.fault(), 0);
        x.text(1);
        CHECK.due("4 the first", x.fault(), 1);
    }

    /** "The FAULT of the latest text() not refused by 2": each number, then a sound one, then by 2. */
    private static void faultOfTheLatest() {
        NumberHeaps x = new NumberHeaps();
        String[] texts = {"?", "number 0", "number 1;heaps 2;heaps 2", TEN + ",11", "heaps 2", "number 3"};
        int[] faults = {1, 2, 3, 4, 5, 0};
        for (int turn = 0; turn < 2; turn++) {
            for (int t = 0; t < texts.length; t++) {
                Check.text(x, texts[t]);
                CHECK.due("4 '" + texts[t] + "'", x.fault(), faults[t]);
                for (int n : new int[] {-1, 1, 301}) {
                    CHECK.refused("3 by 2", x.text(n), x, 2);
                    CHECK.due("4 stays", x.fault(), faults[t]);
                }
                x.about(0);
                x.undo();
                CHECK.due("4 other calls leave it", x.fault(), faults[t]);
            }
        }
    }

    /** "Its place, if the latest call that may be refused was by 4; NONE else". */
    private static void whereOnlyBehindFour() {
        NumberHeaps x = new NumberHeaps();
        CHECK.due("5 ahead of any", x.where(), NONE);
        Check.text(x, "number 1;?");
        CHECK.due("5 by 4", x.where(), 9);
        CHECK.due("5 asked twice", x.where(), 9);
        Check.text(x, "number 1;heaps 5");
        CHECK.due("5 the latest", x.where(), 15);
        x.text(99);
        CHECK.due("5 by 2", x.where(), NONE);
        Check.text(x, "?");
        CHECK.due("5 the least place", x.where(), 0);
        x.image(0);
        CHECK.due("5 by 1", x.where(), NONE);
        Check.text(x, "number 1");
        CHECK.due("5 a sound TEXT", x.where(), NONE);
        Check.text(x, "?");
        x.sums();
        CHECK.due("5 not refused", x.where(), NONE);
        CHECK.due("4 fault stays", x.fault(), 1);
        Check.text(x, "?");
        x.undo();
        CHECK.due("5 by 5", x.where(), NONE);
    }

    private static void cut(String text, int n, int fault, int where) {
        NumberHeaps x = new NumberHeaps();
        Check.feed(x, Check.bytesOf(text));
        CHECK.due("3 the first " + n + " of '" + text + "'", x.text(n), fault == 0 ? 1 : NONE);
        CHECK.due("4 the first " + n + " of '" + text + "'", x.fault(), fault);
        CHECK.due("5 the first " + n + " of '" + text + "'", x.where(), where);
    }
}
