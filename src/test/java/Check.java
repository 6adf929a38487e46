import java.util.HashMap;
import java.util.Map;
import java.util.TreeSet;

/** Counts the answers of one test that are not as due, and feeds texts. */
final class Check {
    private final String name;
    private int asked = 0;
    private int wrong = 0;
    private final Map<String, TreeSet<String>> met = new HashMap<>();

    Check(String name) {
        this.name = name;
    }

    void due(String call, long got, long want) {
        asked++;
        if (got != want) {
            wrong++;
            System.out.println(name + ": " + call + " answered " + got + ", due is " + want);
        }
    }

    void due(String call, boolean got, boolean want) {
        due(call, got ? 1 : 0, want ? 1 : 0);
    }

    /** A call that is refused: its answer, then its TROUBLE. */
    void refused(String call, long got, NumberHeaps x, int trouble) {
        due(call, got, NumberHeaps.NONE);
        due(call + " trouble", x.trouble(), trouble);
    }

    /** A call that isn't refused. */
    void fine(String call, long got, NumberHeaps x, long want) {
        due(call, got, want);
        due(call + " trouble", x.trouble(), 0);
    }

    void octets(String call, NumberHeaps x, String want) {
        for (int j = 0; j < want.length(); j++) {
            due(call + " octet " + j, octetOr(x, j), want.charAt(j));
        }
        due(call + " octet behind", octetOr(x, want.length()), -7);
        due(call + " octet ahead", octetOr(x, -1), -7);
    }

    /** Two texts of many lines; of unlike ones the first line that differs is told. */
    void same(String call, String got, String want) {
        String[] gotLines = got.split("\n");
        String[] wantLines = want.split("\n");
        int at = 0;
        while (at < Math.min(gotLines.length, wantLines.length) - 1 && gotLines[at].equals(wantLines[at])) {
            at++;
        }
        asked++;
        if (!got.equals(want)) {
            wrong++;
            System.out.println(name + ": " + call + ": '" + gotLines[at] + "', due is '" + wantLines[at] + "'");
        }
    }

    /** Counts unlike ones of a kind. */
    void see(String kind, String one) {
        met.computeIfAbsent(kind, k -> new TreeSet<>()).add(one);
    }

    int seen(String kind) {
        return met.getOrDefault(kind, new TreeSet<>()).size();
    }

    /** -7 if there is none such. */
    static int octetOr(NumberHeaps x, int j) {
        try {
            return x.octet(j);
        } catch (java.util.NoSuchElementException none) {
            return -7;
        }
    }

    /** A TEXT that a new object takes; answers the object. */
    NumberHeaps sound(String text, int numbers) {
        NumberHeaps x = new NumberHeaps();
        fine("3 '" + text + "'", text(x, text), x, numbers);
        due("4 fault of '" + text + "'", x.fault(), 0);
        due("5 where of '" + text + "'", x.where(), NumberHeaps.NONE);
        due("3 tape behind '" + text + "'", x.bytes(), 0);
        return x;
    }

    /** A TEXT that a new object refuses by 4. */
    void faulty(String text, int fault, int where) {
        NumberHeaps x = new NumberHeaps();
        refused("3 '" + text + "'", text(x, text), x, 4);
        due("4 fault of '" + text + "'", x.fault(), fault);
        due("5 where of '" + text + "'", x.where(), where);
        due("3 tape behind '" + text + "'", x.bytes(), 0);
        refused("3 no TEXT", x.about(0), x, 1);
    }

    void end() {
        System.out.println(name + ": " + asked + " answers, " + wrong + " not as due");
        if (wrong != 0) {
            System.exit(1);
        }
    }

    /** Feeds the bytes, blanks behind them up to a multiple of twenty; answers the last feed's answer. */
    static int feed(NumberHeaps x, byte[] bytes) {
        int last = NumberHeaps.NONE;
        for (int from = 0; from < bytes.length; from += 20) {
            int[] five = five(bytes, from);
            last = x.feed(five[0], five[1], five[2], five[3], five[4]);
        }
        return last;
    }

    static int[] five(byte[] bytes, int from) {
        int[] five = new int[5];
        for (int j = 0; j < 20; j++) {
            int b = from + j < bytes.length ? bytes[from + j] & 255 : ' ';
            five[j / 4] = five[j / 4] << 8 | b;
        }
        return five;
    }

    static byte[] bytesOf(String text) {
        byte[] bytes = new byte[text.length()];
        for (int j = 0; j < bytes.length; j++) {
            bytes[j] = (byte) text.charAt(j);
        }
        return bytes;
    }

    /** Feeds a text behind an empty tape and has it read. */
    static int text(NumberHeaps x, String text) {
        feed(x, bytesOf(text));
        return x.text(text.length());
    }

    static NumberHeaps of(String text) {
        NumberHeaps x = new NumberHeaps();
        text(x, text);
        return x;
    }
}
