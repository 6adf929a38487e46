/** Counts the answers of one test that are not as due, and feeds texts. */
final class Check {
    private final String name;
    private int asked = 0;
    private int wrong = 0;

    Check(String name) {
        this.name = name;
    }

    void due(String call, long got, long want) {
        asked++;
        if (got != want) {
            wrong++;
            System.out.println(name + ": " + call + " answered " + got + ", due is " + want);
        }
    }

    void due(String call, boolean got, boolean want) {
        due(call, got ? 1 : 0, want ? 1 : 0);
    }

    /** A call that is refused: its answer, then its TROUBLE. */
    void refused(String call, long got, NumberHeaps x, int trouble) {
        due(call, got, NumberHeaps.NONE);
        due(call + " trouble", x.trouble(), trouble);
    }

    /** A call that isn't refused. */
    void fine(String call, long got, NumberHeaps x, long want) {
        due(call, got, want);
        due(call + " trouble", x.trouble(), 0);
    }

    void octets(String call, NumberHeaps x, String want) {
        for (int j = 0; j < want.length(); j++) {
            due(call + " octet " + j, octetOr(x, j), want.charAt(j));
        }
        due(call + " octet behind", octetOr(x, want.length()), -7);
        due(call + " octet ahead", octetOr(x, -1), -7);
    }

    private static int octetOr(NumberHeaps x, int j) {
        try {
            return x.octet(j);
        } catch (java.util.NoSuchElementException none) {
            return -7;
        }
    }

    void end() {
        System.out.println(name + ": " + asked + " answers, " + wrong + " not as due");
        if (wrong != 0) {
            System.exit(1);
        }
    }

    /** Feeds the bytes, blanks behind them up to a multiple of twenty; answers the last feed's answer. */
    static int feed(NumberHeaps x, byte[] bytes) {
        int last = NumberHeaps.NONE;
        for (int from = 0; from < bytes.length; from += 20) {
            int[] five = five(bytes, from);
            last = x.feed(five[0], five[1], five[2], five[3], five[4]);
        }
        return last;
    }

    static int[] five(byte[] bytes, int from) {
        int[] five = new int[5];
        for (int j = 0; j < 20; j++) {
            int b = from + j < bytes.length ? bytes[from + j] & 255 : ' ';
            five[j / 4] = five[j / 4] << 8 | b;
        }
        return five;
    }

    static byte[] bytesOf(String text) {
        byte[] bytes = new byte[text.length()];
        for (int j = 0; j < bytes.length; j++) {
            bytes[j] = (byte) text.charAt(j);
        }
        return bytes;
    }

    /** Feeds a text behind an empty tape and has it read. */
    static int text(NumberHeaps x, String text) {
        feed(x, bytesOf(text));
        return x.text(text.length());
    }

    static NumberHeaps of(String text) {
        NumberHeaps x = new NumberHeaps();
        text(x, text);
        return x;
    }
}
