import java.lang.reflect.InvocationTargetException;
import java.lang.reflect.Method;
import java.util.ArrayList;
import java.util.Comparator;
import java.util.List;
import java.util.Random;

/** Runs of calls, the same every time, on the class and on the plain reading of the document beside it. */
public final class RandomRunsTest {
    private static final int RUNS = 1500;
    private static final int CALLS = 250;
    private static final int FULL_RUNS = 14;
    private static final int MOST_TOLD = 20;

    private final List<Method> calls = new ArrayList<>();
    private final Random random = new Random(20261118);
    private int asked = 0;
    private int wrong = 0;
    private NumberHeaps x;
    private PlainHeaps plain;
    private StringBuilder run;
    private int most;

    public static void main(String[] args) throws Exception {
        new RandomRunsTest().goOn();
    }

    private void goOn() throws Exception {
        for (Method m : NumberHeaps.class.getDeclaredMethods()) {
            if (java.lang.reflect.Modifier.isPublic(m.getModifiers())) {
                calls.add(m);
            }
        }
        calls.sort(Comparator.comparing(Method::getName));
        for (int r = 0; r < RUNS && wrong < MOST_TOLD; r++) {
            oneRun(r);
        }
        for (int r = 0; r < FULL_RUNS && wrong == 0; r++) {
            fullRun(r);
        }
        System.out.println("RandomRunsTest: " + asked + " answers, " + wrong + " not as due");
        if (wrong != 0) {
            System.exit(1);
        }
    }

    private void oneRun(int r) throws Exception {
        x = new NumberHeaps();
        plain = new PlainHeaps();
        run = new StringBuilder();
        // ten numbers in four heaps have a million rows, which the plain reading goes through one by one
        most = r % 50 == 0 ? 8 : r % 3 == 0 ? 3 : 6;
        int before = wrong;
        for (int c = 0; c < CALLS && wrong == before; c++) {
            if (random.nextInt(30) == 0 || c == 3) {
                tellText(random.nextInt(3) == 0);
            } else {
                callAny();
            }
        }
    }

    /** Ten numbers in all heaps, some kept, some apart. */
    private void fullRun(int r) throws Exception {
        x = new NumberHeaps();
        plain = new PlainHeaps();
        run = new StringBuilder();
        most = 10;
        int bound = r % 3 == 0 ? 4 : r % 3 == 1 ? 60 : 9999;
        StringBuilder t = new StringBuilder("number ").append(1 + random.nextInt(bound));
        for (int i = 1; i < 10; i++) {
            t.append(',').append(1 + random.nextInt(bound));
        }
        tell(t.append(";heaps ").append(2 + r % 3).toString());
        for (int a = 0; a < r % 7; a++) {
            both(method("apart"), random.nextInt(10), random.nextInt(10));
            both(method("keepIn"), random.nextInt(10), random.nextInt(8) - 4);
        }
        for (int k = 2; k <= 4; k++) {
            for (String name : new String[] {"rows", "flat", "multi", "bound"}) {
                both(method(name), k);
            }
            for (String name : new String[] {"least", "climb", "greedy"}) {
                both(method(name), k, 0);
                both(method(name), k, 1);
            }
            for (int i = 0; i < 10; i++) {
                both(method("leastOf"), k, i);
                both(method("climbOf"), k, i);
                both(method("multiOf"), k, i);
            }
        }
        both(method("write"));
        for (int i = 0; i < 10; i++) {
            both(method("searchOf"), i);
            both(method("differenceOf"), i);
            both(method("search"), i);
            both(method("find"), i, 0);
            both(method("find"), i, 1);
            both(method("chosen"), random.nextInt(5 * bound));
        }
        both(method("sums"));
    }

    private void callAny() throws Exception {
        Method m = calls.get(random.nextInt(calls.size()));
        if (m.getName().equals("feed") || m.getName().equals("text")) {
            if (random.nextInt(4) != 0) {
                return;
            }
        }
        if (m.getName().equals("add") && (int) both(method("about"), 0) >= most && random.nextInt(20) != 0) {
            return;
        }
        Object[] arguments = new Object[m.getParameterCount()];
        for (int a = 0; a < arguments.length; a++) {
            arguments[a] = argument(m.getName(), a);
        }
        both(m, arguments);
    }

    private int argument(String name, int a) {
        if (random.nextInt(40) == 0) {
            int[] odd = {-1, -2, -3, 5, 10, 11, 300, 301, 10000, 100000, Integer.MIN_VALUE, Integer.MAX_VALUE};
            return odd[random.nextInt(odd.length)];
        }
        switch (name) {
            case "feed": return random.nextInt();
            case "text": return random.nextInt(60) - 5;
            case "ways": case "chosen": case "nearest":
                return random.nextInt(random.nextInt(3) == 0 ? 100000 : 60);
            case "add": return aValue();
            case "become": return a == 0 ? random.nextInt(most) : aValue();
            case "keepIn": return a == 0 ? random.nextInt(most) : random.nextInt(7) - 2;
            case "heaps": case "multi": case "bound": case "flat": case "rows": return random.nextInt(4) + 1;
            case "greedy": case "least": case "climb": return a == 0 ? random.nextInt(4) + 1 : random.nextInt(4) - 1;
            case "greedyOf": case "multiOf": case "leastOf": case "climbOf":
                return a == 0 ? random.nextInt(4) + 1 : random.nextInt(most);
            case "image": case "back": return random.nextInt(4) - 1;
            case "about": return random.nextInt(10) - 1;
            case "octet": return random.nextInt(30) - 1;
            case "search": return random.nextInt(7) - 1;
            default: return random.nextInt(most + 2) - 1;
        }
    }

    private int aValue() {
        int[] bounds = {3, 10, 40, 9999};
        return 1 + random.nextInt(bounds[random.nextInt(bounds.length)]);
    }

    private void tellText(boolean spoilt) throws Exception {
        tell(spoilt ? spoil(soundText()) : soundText());
    }

    private void tell(String text) throws Exception {
        byte[] bytes = Check.bytesOf(text);
        for (int from = 0; from < bytes.length; from += 20) {
            int[] w = Check.five(bytes, from);
            both(method("feed"), w[0], w[1], w[2], w[3], w[4]);
        }
        both(method("text"), bytes.length);
    }

    private Method method(String name) {
        for (Method m : calls) {
            if (m.getName().equals(name)) {
                return m;
            }
        }
        throw new IllegalStateException(name);
    }

    private String soundText() {
        StringBuilder t = new StringBuilder();
        int told = 0;
        int lines = 1 + random.nextInt(6);
        for (int line = 0; line < lines; line++) {
            t.append(line == 0 ? "" : random.nextBoolean() ? ";" : " ; ");
            int kind = told == 0 ? 0 : random.nextInt(5);
            if (kind == 0) {
                int more = told < most ? 1 + random.nextInt(most - told) : 1;
                t.append("number");
                for (int j = 0; j < more; j++) {
                    t.append(j == 0 ? random.nextBoolean() ? " " : "" : ",").append(aValue());
                }
                told += more;
            } else if (kind == 1) {
                t.append("heaps ").append(2 + random.nextInt(3));
            } else if (kind == 2) {
                t.append("keep ").append(random.nextInt(told)).append("in").append(random.nextInt(4));
            } else {
                t.append("apart ").append(random.nextInt(told)).append(' ').append(random.nextInt(told));
            }
        }
        return t.toString();
    }

    private String spoil(String text) {
        StringBuilder t = new StringBuilder(text);
        String[] scraps = {";", ",", " ", "0", "10", "9", "in", "number 1", ";heaps 3", ";keep 0 in 1", ";apart 0 1",
            "abcdefg", "12345", "A", "\u0000", "\u00e9", "00", ",1,2,3,4,5,6,7,8,9,10,11", "~", "heaps 2;"};
        int edits = 1 + random.nextInt(3);
        for (int e = 0; e < edits; e++) {
            int at = random.nextInt(t.length() + 1);
            int kind = random.nextInt(4);
            if (kind == 0 && at < t.length()) {
                t.deleteCharAt(at);
            } else if (kind == 1) {
                t.setLength(at);
            } else {
                t.insert(random.nextInt(3) == 0 ? t.length() : at, scraps[random.nextInt(scraps.length)]);
            }
        }
        return t.length() > 299 ? t.substring(0, 299) : t.toString();
    }

    private Object both(Method m, Object... arguments) throws Exception {
        Object got = answer(x, m, arguments);
        Object want = answer(plain, PlainHeaps.class.getMethod(m.getName(), m.getParameterTypes()), arguments);
        run.append(m.getName()).append(java.util.Arrays.toString(arguments)).append(' ').append(got).append('\n');
        same(m.getName(), got, want);
        same("trouble behind " + m.getName(), x.trouble(), plain.trouble());
        same("where behind " + m.getName(), x.where(), plain.where());
        same("fault behind " + m.getName(), x.fault(), plain.fault());
        same("bytes behind " + m.getName(), x.bytes(), plain.bytes());
        return want;
    }

    private void same(String call, Object got, Object want) {
        asked++;
        if (!got.equals(want)) {
            wrong++;
            System.out.println(run + "RandomRunsTest: " + call + " answered " + got + ", due is " + want);
        }
    }

    private static Object answer(Object object, Method m, Object[] arguments) throws Exception {
        try {
            return m.invoke(object, arguments);
        } catch (InvocationTargetException thrown) {
            return thrown.getCause().getClass().getName();
        }
    }
}
