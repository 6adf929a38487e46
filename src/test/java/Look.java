import java.util.NoSuchElementException;

/** All that an object answers, as one text; looking takes some 350 calls, and the object is used up by it. */
final class Look {
    private final NumberHeaps x;
    private final StringBuilder seen = new StringBuilder();

    private Look(NumberHeaps x) {
        this.x = x;
    }

    static String atAll(NumberHeaps x) {
        Look look = new Look(x);
        look.tell("bytes", x.bytes());
        look.tell("fault", x.fault());
        look.atWhatIsThere();
        look.atTape();
        return look.seen.toString();
    }

    /** Without what a TEXT that is refused by 4 changes. */
    static String atAllButTheTape(NumberHeaps x) {
        Look look = new Look(x);
        look.atWhatIsThere();
        return look.seen.toString();
    }

    private void atWhatIsThere() {
        atNumbers();
        atAnswers();
        atWritten();
        atActs();
        atImages();
    }

    private void tell(String call, long answer) {
        seen.append(call).append(' ').append(answer).append('\n');
    }

    private void atNumbers() {
        for (int what = 0; what < 8; what++) {
            tell("about " + what, x.about(what));
        }
        for (int i = 0; i < x.about(0); i++) {
            tell("sized " + i, x.sized(i));
            for (int what = 0; what < 4; what++) {
                tell("number " + i + " " + what, x.number(i, what));
            }
        }
    }

    private void atAnswers() {
        for (int k = 2; k <= 4; k++) {
            tell("greedy", x.greedy(k, 0));
            tell("multi", x.multi(k));
            tell("bound", x.bound(k));
            tell("least", x.least(k, 0));
            tell("least, times", x.least(k, 1));
            tell("flat", x.flat(k));
            tell("rows", x.rows(k));
            tell("climb", x.climb(k, 1));
        }
        tell("difference", x.difference());
        tell("visited", x.search(1));
        tell("sums", x.sums());
    }

    private void atWritten() {
        boolean more = true;
        for (int j = 0; j < 70 && more; j++) {
            try {
                tell("octet " + j, x.octet(j));
            } catch (NoSuchElementException none) {
                more = false;
            }
        }
    }

    private void atActs() {
        for (int turn = 0; turn < 11; turn++) {
            tell("undo", x.undo());
            for (int what = 0; what < 5; what++) {
                tell("then about " + what, x.about(what));
            }
            tell("then number 0", x.number(0, 0));
        }
    }

    private void atImages() {
        for (int i = 0; i < 2; i++) {
            tell("back " + i, x.back(i) ? 1 : 0);
            for (int what = 0; what < 8; what++) {
                tell("then about " + what, x.about(what));
            }
        }
    }

    private void atTape() {
        tell("text", x.text(x.bytes()));
        tell("fault then", x.fault());
        tell("where then", x.where());
        tell("HEAPS then", x.about(1));
        tell("TOTAL then", x.about(2));
    }
}
