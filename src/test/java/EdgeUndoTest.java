/** The edges of what can be undone and of IMAGES: 'Terms' III and promises 37 (undo) to 39 (back). */
public final class EdgeUndoTest {
    private static final Check CHECK = new Check("EdgeUndoTest");

    public static void main(String[] args) {
        noActToUndo();
        everyActIsOne();
        everyActIsUndone();
        noOtherCallIsOne();
        theLatestTen();
        tenAgainBehindUndo();
        theRingGoesRound();
        refusedOnesAreNone();
        aTextLeavesNoAct();
        imagesZeroAndOne();
        notKept();
        imagesAreCopies();
        backLeavesNoAct();
        anImageKeepsAll();
        aTextLeavesNoImage();
        CHECK.end();
    }

    /** "NONE: 1 (no TEXT); 5". */
    private static void noActToUndo() {
        NumberHeaps x = new NumberHeaps();
        CHECK.refused("37 no TEXT", x.undo(), x, 1);
        Check.text(x, "number 0");
        CHECK.refused("37 still no TEXT", x.undo(), x, 1);
        Check.text(x, "number 4");
        CHECK.refused("37 no ACT yet", x.undo(), x, 5);
        x.add(5);
        CHECK.fine("37 the only one", x.undo(), x, 0);
        CHECK.refused("37 none any more", x.undo(), x, 5);
        CHECK.due("37 as it was", x.about(0), 1);
    }

    /** "ACTS (calls that say so)": seven calls, each one ACT, even if it changes nothing. */
    private static void everyActIsOne() {
        NumberHeaps x = CHECK.sound("number 9,8,7", 3);
        CHECK.due("30", x.add(1), 4);
        CHECK.due("6 one", x.about(5), 1);
        CHECK.due("31", x.drop(3), 1);
        CHECK.due("6 two", x.about(5), 2);
        CHECK.due("32 the same", x.become(0, 9), 9);
        CHECK.due("6 three", x.about(5), 3);
        CHECK.due("33 the same", x.keepIn(0, -2), -2);
        CHECK.due("6 four", x.about(5), 4);
        CHECK.due("34", x.apart(0, 1), 1);
        CHECK.due("6 five", x.about(5), 5);
        CHECK.due("35 the same", x.sort(), 0);
        CHECK.due("6 six", x.about(5), 6);
        CHECK.due("36 the same", x.heaps(2), 2);
        CHECK.due("6 seven", x.about(5), 7);
        for (int left = 6; left >= 0; left--) {
            CHECK.fine("37", x.undo(), x, left);
        }
        CHECK.refused("37 all undone", x.undo(), x, 5);
    }

    /** "The latest ACT is undone": each alone, back to all that was there. */
    private static void everyActIsUndone() {
        String text = "number 5,9,7;heaps 3;keep 0 in 2;keep 2 in 1;apart 0 1;apart 1 2";
        String before = Look.atAll(CHECK.sound(text, 3));
        for (int act = 0; act < 9; act++) {
            NumberHeaps x = CHECK.sound(text, 3);
            switch (act) {
                case 0: x.add(6); break;
                case 1: x.drop(0); break;
                case 2: x.drop(2); break;
                case 3: x.become(1, 3); break;
                case 4: x.keepIn(0, -2); break;
                case 5: x.apart(0, 1); break;
                case 6: x.apart(0, 2); break;
                case 7: x.sort(); break;
                default: x.heaps(4); break;
            }
            CHECK.due("43 not refused " + act, x.trouble(), 0);
            CHECK.fine("37 undone " + act, x.undo(), x, 0);
            CHECK.same("37 as it was ahead of " + act, Look.atAll(x), before);
        }
    }

    /** Calls that don't say so are no ACTS: how many can be undone stays. */
    private static void noOtherCallIsOne() {
        NumberHeaps x = CHECK.sound("number 9,8,7", 3);
        x.become(0, 5);
        for (int k = 2; k <= 4; k++) {
            x.greedy(k, 0);
            x.multi(k);
            x.bound(k);
            x.least(k, 1);
            x.flat(k);
            x.rows(k);
            x.climb(k, 0);
        }
        x.difference();
        x.step(0, 0);
        x.search(1);
        x.find(0, 0);
        x.sums();
        x.ways(5);
        x.chosen(5);
        x.nearest(5);
        x.write();
        x.image(0);
        x.feed(0, 0, 0, 0, 0);
        x.sized(0);
        x.number(0, 1);
        CHECK.fine("6 still one", x.about(5), x, 1);
        CHECK.fine("37 still that", x.undo(), x, 0);
        CHECK.due("37 undone", x.number(0, 0), 9);
    }

    /** "the latest 10": nine, ten, eleven of them. */
    private static void theLatestTen() {
        for (int acts = 9; acts <= 11; acts++) {
            NumberHeaps x = CHECK.sound("number 100", 1);
            for (int act = 1; act <= acts; act++) {
                x.become(0, 100 + act);
            }
            int undone = Math.min(acts, 10);
            CHECK.due("6 of " + acts, x.about(5), undone);
            for (int left = undone - 1; left >= 0; left--) {
                CHECK.fine("37 of " + acts, x.undo(), x, left);
                CHECK.due("6 of " + acts, x.about(5), left);
                CHECK.due("37 the latest first", x.number(0, 0), 100 + acts - undone + left);
            }
            CHECK.refused("37 no more of " + acts, x.undo(), x, 5);
            CHECK.due("37 as far as it goes", x.number(0, 0), acts == 11 ? 101 : 100);
        }
    }

    /** What was undone counts no more; ten ACTS behind it can be undone. */
    private static void tenAgainBehindUndo() {
        NumberHeaps x = CHECK.sound("number 100", 1);
        for (int act = 1; act <= 10; act++) {
            x.become(0, 100 + act);
        }
        for (int turn = 0; turn < 4; turn++) {
            x.undo();
        }
        CHECK.due("37 four undone", x.number(0, 0), 106);
        for (int act = 1; act <= 5; act++) {
            x.become(0, 200 + act);
        }
        CHECK.due("6 ten at most", x.about(5), 10);
        int[] due = {204, 203, 202, 201, 106, 105, 104, 103, 102, 101};
        for (int turn = 0; turn < 10; turn++) {
            CHECK.fine("37", x.undo(), x, 9 - turn);
            CHECK.due("37 then", x.number(0, 0), due[turn]);
        }
        CHECK.refused("37 no more", x.undo(), x, 5);
    }

    /** Many more than ten, done and undone in turn. */
    private static void theRingGoesRound() {
        NumberHeaps x = CHECK.sound("number 1", 1);
        int value = 1;
        for (int round = 0; round < 12; round++) {
            for (int act = 0; act < 7; act++) {
                x.become(0, ++value);
            }
            for (int left = 0; left < 3; left++) {
                x.undo();
                value--;
                CHECK.due("37 round " + round, x.number(0, 0), value);
            }
        }
        CHECK.due("6 ten less three", x.about(5), 7);
    }

    /** "the latest 10 that weren't refused": what is refused takes no place among them. */
    private static void refusedOnesAreNone() {
        NumberHeaps x = CHECK.sound("number 1,2,3,4;apart 0 1;apart 0 2;apart 0 3;apart 1 2;apart 1 3", 4);
        x.apart(2, 3);
        for (int n = 5; n <= 10; n++) {
            x.add(n);
        }
        for (int turn = 0; turn < 3; turn++) {
            CHECK.refused("30", x.add(11), x, 3);
            CHECK.refused("30", x.add(0), x, 2);
            CHECK.refused("31", x.drop(10), x, 1);
            CHECK.refused("32", x.become(0, 0), x, 2);
            CHECK.refused("33", x.keepIn(0, 4), x, 2);
            CHECK.refused("34", x.apart(4, 5), x, 3);
            CHECK.refused("36", x.heaps(5), x, 2);
        }
        CHECK.due("6 seven", x.about(5), 7);
        for (int left = 6; left >= 0; left--) {
            CHECK.fine("37", x.undo(), x, left);
        }
        CHECK.due("37 five apart", x.about(4), 5);
        CHECK.due("37 four NUMBERS", x.about(0), 4);
    }

    /** "(a TEXT leaves none)"; one that is refused leaves them. */
    private static void aTextLeavesNoAct() {
        NumberHeaps x = CHECK.sound("number 4", 1);
        x.add(5);
        Check.text(x, "number 0");
        CHECK.due("6 refused by 4", x.about(5), 1);
        x.text(1);
        CHECK.due("6 refused by 2", x.about(5), 1);
        Check.text(x, "number 4");
        CHECK.due("6 a TEXT", x.about(5), 0);
        CHECK.refused("37 none", x.undo(), x, 5);
    }

    /** "IMAGE i (0, 1)": both, one below, one above. */
    private static void imagesZeroAndOne() {
        NumberHeaps x = CHECK.sound("number 4", 1);
        yes("38 the least", x.image(0), x);
        x.become(0, 5);
        yes("38 the greatest", x.image(1), x);
        x.become(0, 6);
        for (int i : new int[] {-1, 2}) {
            no("38 " + i, x.image(i), x);
            no("39 " + i, x.back(i), x);
        }
        CHECK.due("7 as it was", x.number(0, 0), 6);
        yes("39 the least", x.back(0), x);
        CHECK.due("39 the least", x.number(0, 0), 4);
        yes("39 the greatest", x.back(1), x);
        CHECK.due("39 the greatest", x.number(0, 0), 5);
    }

    /** "(no TEXT, too)", "(it wasn't kept, too)". */
    private static void notKept() {
        NumberHeaps x = new NumberHeaps();
        no("38 no TEXT", x.image(0), x);
        no("38 no TEXT", x.image(1), x);
        no("39 no TEXT", x.back(0), x);
        no("39 no TEXT", x.back(1), x);
        Check.text(x, "number 4");
        no("39 what was refused isn't kept", x.back(0), x);
        no("39 not kept", x.back(1), x);
        yes("38", x.image(1), x);
        no("39 only the other is kept", x.back(0), x);
        yes("39", x.back(1), x);
        no("39 still", x.back(0), x);
        yes("39 as often as one likes", x.back(1), x);
    }

    /** "BACK TO one it is as then": whatever comes behind changes no IMAGE; a new one takes the old one's place. */
    private static void imagesAreCopies() {
        NumberHeaps x = CHECK.sound("number 4,6;apart 0 1", 2);
        x.image(0);
        x.become(0, 9);
        x.apart(0, 1);
        x.keepIn(1, 3);
        x.heaps(4);
        x.back(0);
        x.drop(0);
        x.back(0);
        CHECK.due("39 NUMBERS", x.about(0), 2);
        CHECK.due("39 the first", x.number(0, 0), 4);
        CHECK.due("39 HEAPS", x.about(1), 2);
        CHECK.due("39 kept", x.about(3), 0);
        CHECK.due("39 apart", x.about(4), 1);
        x.become(1, 8);
        x.image(0);
        x.undo();
        CHECK.due("37 undone", x.number(1, 0), 6);
        x.back(0);
        CHECK.due("39 kept anew", x.number(1, 0), 8);
    }

    /** "no ACT can be undone"; image itself leaves them; back that is refused leaves them. */
    private static void backLeavesNoAct() {
        NumberHeaps x = CHECK.sound("number 4", 1);
        x.become(0, 5);
        x.image(0);
        CHECK.due("38 ACTS stay", x.about(5), 1);
        no("39", x.back(1), x);
        CHECK.due("39 refused, ACTS stay", x.about(5), 1);
        x.back(0);
        CHECK.due("39 no ACT", x.about(5), 0);
        CHECK.refused("37 no ACT", x.undo(), x, 5);
        CHECK.due("39 as then", x.number(0, 0), 5);
        for (int act = 1; act <= 11; act++) {
            x.become(0, 10 + act);
        }
        x.back(0);
        CHECK.refused("37 no ACT", x.undo(), x, 5);
        x.become(0, 7);
        CHECK.fine("37 the one behind", x.undo(), x, 0);
        CHECK.due("37 the one behind", x.number(0, 0), 5);
    }

    /** "IMAGES 0, 1 keep NUMBERS, HEAPS, what is kept, apart", as many as there may be. */
    private static void anImageKeepsAll() {
        StringBuilder text = new StringBuilder("heaps 4;number 1,2,3,4,5,6,7,8,9,10");
        for (int i = 0; i < 10; i++) {
            text.append(";keep").append(i).append("in").append(i % 4);
        }
        text.append(";apart 0 1;apart 9 8;apart 2 7;apart 3 6;apart 4 5;apart 0 9");
        NumberHeaps x = CHECK.sound(text.toString(), 10);
        x.image(0);
        x.image(1);
        for (int i = 9; i > 0; i--) {
            x.drop(i);
        }
        x.heaps(2);
        x.keepIn(0, -2);
        for (int i = 1; i >= 0; i--) {
            yes("39", x.back(i), x);
            NumberHeaps twin = CHECK.sound(text.toString(), 10);
            for (int what = 0; what < 8; what++) {
                CHECK.due("39 about " + what, x.about(what), twin.about(what));
            }
            for (int n = 0; n < 10; n++) {
                for (int what = 0; what < 4; what++) {
                    CHECK.due("39 number " + n + " " + what, x.number(n, what), twin.number(n, what));
                }
            }
            x.drop(0);
        }
    }

    /** "(a TEXT leaves no IMAGE)"; one that is refused leaves them. */
    private static void aTextLeavesNoImage() {
        NumberHeaps x = CHECK.sound("number 4", 1);
        x.image(0);
        x.image(1);
        Check.text(x, "heaps 2");
        yes("39 behind a FAULT", x.back(0), x);
        x.text(1);
        yes("39 refused by 2", x.back(1), x);
        Check.text(x, "number 4");
        no("39 behind a TEXT", x.back(0), x);
        no("39 behind a TEXT", x.back(1), x);
        CHECK.due("39 as it was", x.about(0), 1);
    }

    private static void yes(String call, boolean got, NumberHeaps x) {
        CHECK.due(call, got, true);
        CHECK.due(call + " trouble", x.trouble(), 0);
    }

    private static void no(String call, boolean got, NumberHeaps x) {
        CHECK.due(call, got, false);
        CHECK.due(call + " trouble", x.trouble(), 1);
    }
}
