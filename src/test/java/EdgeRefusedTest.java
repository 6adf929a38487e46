import java.lang.reflect.Method;
import java.util.ArrayList;
import java.util.Arrays;
import java.util.HashMap;
import java.util.List;
import java.util.Map;

/**
 * Every call that may be refused, at every scene, with every argument at its edges and beyond, all with all: which
 * TROUBLE is told, of several which first, and that what is refused, or only tells, changes nothing but trouble(),
 * where().
 */
public final class EdgeRefusedTest {
    private static final Check CHECK = new Check("EdgeRefusedTest");

    private static final int LEAST = Integer.MIN_VALUE;
    private static final int MOST = Integer.MAX_VALUE;

    /** The calls with the kinds of their arguments, and what else can refuse them, as the document tells it. */
    private static final String[] CALLS = {
        "about what7", "number place what3", "sized place",
        "greedy k what1", "greedyOf k place", "difference", "differenceOf place", "step step what1",
        "multi k", "multiOf k place",
        "search what4", "find find what1", "searchOf place",
        "bound k", "least k what1 !row", "leastOf k place !row", "flat k !row", "rows k", "climb k what1",
        "climbOf k place",
        "ways sum", "chosen sum", "sums", "nearest sum",
        "add value !ten", "drop place !only", "become place value", "keepIn place heap", "apart place place !apart",
        "sort", "heaps k", "undo !act", "image image", "back image !kept",
        "write !row",
    };

    /** All other calls only tell. */
    private static final List<String> CHANGING = List.of("add", "drop", "become", "keepIn", "apart", "sort", "heaps",
        "undo", "image", "back", "write");

    private static final Map<String, Method> METHODS = new HashMap<>();
    private static final Map<Scene, String> LOOKS = new HashMap<>();

    public static void main(String[] args) throws Exception {
        for (Method m : NumberHeaps.class.getDeclaredMethods()) {
            METHODS.put(m.getName(), m);
        }
        for (Scene scene : Scene.values()) {
            sceneIsAsSaid(scene);
            LOOKS.put(scene, Look.atAll(scene.make()));
            for (String call : CALLS) {
                askWithAll(scene, call.split(" "));
            }
            textRefusedByTwo(scene);
            textRefusedByFour(scene);
        }
        callsThatAreNeverRefused();
        CHECK.due("calls that may be refused, and text", CHECK.seen("calls"), CALLS.length + 1);
        CHECK.end();
    }

    private static void sceneIsAsSaid(Scene scene) {
        NumberHeaps x = scene.make();
        CHECK.due(scene + " bytes", x.bytes(), scene.bytes);
        CHECK.due(scene + " trouble", x.trouble(), scene == Scene.NEW ? 0 : 4);
        CHECK.due(scene + " where", x.where(), scene == Scene.NEW ? -1 : 9);
        CHECK.due(scene + " fault", x.fault(), scene == Scene.NEW ? 0 : 2);
        if (scene.numbers > 0) {
            CHECK.due(scene + " NUMBERS", x.about(0), scene.numbers);
            CHECK.due(scene + " ACTS", x.about(5), scene.acts);
            CHECK.due(scene + " apart", x.about(4) == 6, scene.sixApart);
        }
    }

    private static void askWithAll(Scene scene, String[] call) throws Exception {
        CHECK.see("calls", call[0]);
        List<int[]> all = new ArrayList<>();
        all.add(new int[0]);
        for (int a = 1; a < call.length && call[a].charAt(0) != '!'; a++) {
            List<int[]> longer = new ArrayList<>();
            for (int[] ahead : all) {
                for (int v : tried(scene, call[a])) {
                    int[] more = Arrays.copyOf(ahead, ahead.length + 1);
                    more[ahead.length] = v;
                    longer.add(more);
                }
            }
            all = longer;
        }
        for (int[] arguments : all) {
            ask(scene, call, arguments);
        }
    }

    /** The least and the greatest that is allowed, one below, one above, and the farthest. */
    private static int[] tried(Scene scene, String kind) {
        int n = scene.numbers;
        switch (kind) {
            case "what1": return new int[] {0, 1, -1, 2, LEAST, MOST};
            case "what3": return new int[] {0, 3, -1, 4, LEAST, MOST};
            case "what4": return new int[] {0, 4, -1, 5, LEAST, MOST};
            case "what7": return new int[] {0, 7, -1, 8, LEAST, MOST};
            case "place": return new int[] {0, n - 1, n, -1, -2, 10, 32, LEAST, MOST};
            case "step": return new int[] {0, n - 2, n - 1, -1, 10, LEAST, MOST};
            case "find": return new int[] {0, scene.finds - 1, scene.finds, -1, 512, LEAST, MOST};
            case "k": return new int[] {2, 3, 4, 1, 5, 0, -1, -2, LEAST, MOST};
            case "sum": return new int[] {0, 99999, -1, 100000, LEAST, MOST};
            case "value": return new int[] {1, 9999, 0, 10000, -1, LEAST, MOST};
            case "heap": return new int[] {0, 3, -2, 4, -1, -3, LEAST, MOST};
            case "image": return new int[] {0, 1, -1, 2, LEAST, MOST};
            default: throw new IllegalStateException(kind);
        }
    }

    private static int dueTrouble(Scene scene, String[] call, int[] arguments) {
        if (scene.numbers == 0) {
            return 1;
        }
        boolean number = false;
        for (int a = 0; a < arguments.length; a++) {
            String kind = call[a + 1];
            boolean told = kind.equals("k") || kind.equals("sum") || kind.equals("value") || kind.equals("heap");
            boolean allowed = allowed(scene, kind, arguments[a]);
            if (!allowed && !told) {
                return 1;
            }
            number |= !allowed;
        }
        return number ? 2 : dueBeyondArguments(scene, call[call.length - 1], arguments);
    }

    private static boolean allowed(Scene scene, String kind, int v) {
        switch (kind) {
            case "what1": return v == 0 || v == 1;
            case "what3": return v >= 0 && v <= 3;
            case "what4": return v >= 0 && v <= 4;
            case "what7": return v >= 0 && v <= 7;
            case "place": return v >= 0 && v <= scene.numbers - 1;
            case "step": return v >= 0 && v <= scene.numbers - 2;
            case "find": return v >= 0 && v <= scene.finds - 1;
            case "k": return v == 2 || v == 3 || v == 4;
            case "sum": return v >= 0 && v <= 99999;
            case "value": return v >= 1 && v <= 9999;
            case "heap": return v == -2 || v == 0 || v == 1 || v == 2 || v == 3;
            case "image": return v == 0 || v == 1;
            default: throw new IllegalStateException(kind);
        }
    }

    private static int dueBeyondArguments(Scene scene, String what, int[] arguments) {
        switch (what) {
            case "!row": return scene.rowAllowed ? 0 : 6;
            case "!ten": return scene.numbers == 10 ? 3 : 0;
            case "!only": return scene.numbers == 1 ? 5 : 0;
            case "!act": return scene.acts == 0 ? 5 : 0;
            case "!kept": return (scene.images >> arguments[0] & 1) == 0 ? 1 : 0;
            // only 0 and the last are tried, which are not apart where six are
            case "!apart": return scene.sixApart ? 3 : arguments[0] == arguments[1] ? 5 : 0;
            default: return 0;
        }
    }

    private static long answer(NumberHeaps x, String name, int[] arguments) throws Exception {
        Object[] boxed = new Object[arguments.length];
        for (int a = 0; a < arguments.length; a++) {
            boxed[a] = arguments[a];
        }
        Object got = METHODS.get(name).invoke(x, boxed);
        return got instanceof Boolean ? (Boolean) got ? 1 : 0 : (Integer) got;
    }

    private static void ask(Scene scene, String[] call, int[] arguments) throws Exception {
        String said = scene + " " + call[0] + Arrays.toString(arguments);
        int trouble = dueTrouble(scene, call, arguments);
        int refused = call[0].equals("image") || call[0].equals("back") ? 0 : NumberHeaps.NONE;
        NumberHeaps x = scene.make();
        int fault = x.fault();
        long got = answer(x, call[0], arguments);
        CHECK.due(said + " is refused", got == refused, trouble != 0);
        CHECK.due(said + " trouble", x.trouble(), trouble);
        CHECK.due(said + " where", x.where(), NumberHeaps.NONE);
        CHECK.due(said + " fault", x.fault(), fault);
        CHECK.due(said + " bytes", x.bytes(), scene.bytes);
        if (trouble != 0 || !CHANGING.contains(call[0])) {
            CHECK.same(said + " changes nothing", Look.atAll(x), LOOKS.get(scene));
        }
    }

    /** Promise 3: n is none of 0 .. bytes(); told ahead of a FAULT; THE TAPE and fault() stay. */
    private static void textRefusedByTwo(Scene scene) {
        CHECK.see("calls", "text");
        for (int n : new int[] {-1, scene.bytes + 1, 301, LEAST, MOST}) {
            NumberHeaps x = scene.make();
            int fault = x.fault();
            CHECK.refused(scene + " text " + n, x.text(n), x, 2);
            CHECK.due(scene + " where", x.where(), NumberHeaps.NONE);
            CHECK.due(scene + " fault", x.fault(), fault);
            CHECK.due(scene + " bytes", x.bytes(), scene.bytes);
            CHECK.same(scene + " text " + n + " changes nothing", Look.atAll(x), LOOKS.get(scene));
        }
    }

    /** Each FAULT empties THE TAPE and is told by fault(), where(); all else stays, however far the TEXT was read. */
    private static void textRefusedByFour(Scene scene) {
        String six = ";apart 0 1;apart 0 2;apart 0 3;apart 1 2;apart 1 3;apart 2 3";
        String[] texts = {"", "number 99,98;heaps 4;keep 0 in 3;apart 0 1;?", "number 99;heaps 4;keep 1 in 0",
            "heaps 4;number 99,98;keep 1 in 2;heaps 4", "number 1,2,3,4" + six + ";apart 0 1", "heaps 4"};
        int[] faults = {1, 1, 2, 3, 4, 5};
        int[] wheres = {0, 43, 23, 33, 75, 7};
        String before = Look.atAllButTheTape(scene.make());
        for (int t = 0; t < texts.length; t++) {
            NumberHeaps x = scene.make();
            // whatever is on the tape goes with a TEXT of no bytes; what that one leaves is looked at, too
            CHECK.refused(scene + " text of no bytes", x.text(0), x, 4);
            CHECK.due(scene + " fault", x.fault(), 1);
            CHECK.due(scene + " where", x.where(), 0);
            CHECK.due(scene + " bytes", x.bytes(), 0);
            CHECK.refused(scene + " '" + texts[t] + "'", Check.text(x, texts[t]), x, 4);
            CHECK.due(scene + " '" + texts[t] + "' fault", x.fault(), faults[t]);
            CHECK.due(scene + " '" + texts[t] + "' where", x.where(), wheres[t]);
            CHECK.due(scene + " '" + texts[t] + "' bytes", x.bytes(), 0);
            CHECK.same(scene + " '" + texts[t] + "' changes nothing else", Look.atAllButTheTape(x), before);
        }
    }

    /** feed (done or not), fault, where, octet, bytes, trouble: no number is told there; trouble(), where() stay. */
    private static void callsThatAreNeverRefused() {
        for (Scene scene : Scene.values()) {
            NumberHeaps x = scene.make();
            for (int trouble : new int[] {x.trouble(), 2, 1}) {
                if (trouble == 2) {
                    x.text(-1);
                } else if (trouble == 1) {
                    x.image(9);
                }
                int where = x.where();
                for (int turn = 0; turn < 16; turn++) {
                    x.feed(turn, turn, turn, turn, turn);
                    x.bytes();
                    x.fault();
                    CHECK.due(scene + " where stays", x.where(), where);
                    CHECK.due(scene + " octet", Check.octetOr(x, 300), -7);
                    CHECK.due(scene + " trouble stays", x.trouble(), trouble);
                }
            }
        }
    }
}
