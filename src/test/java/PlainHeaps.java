import java.util.ArrayList;
import java.util.Comparator;
import java.util.HashMap;
import java.util.List;
import java.util.Map;
import java.util.NoSuchElementException;
import java.util.TreeMap;
import java.util.TreeSet;

/** The document read a second time, in the plainest way and with the whole Java library; only for comparing. */
public final class PlainHeaps {
    static final class Num {
        int value;
        int kept = -2;
    }

    static final class Snap {
        List<Num> nums = new ArrayList<>();
        List<Num[]> pairs = new ArrayList<>();
        int heaps = 2;

        Snap copy() {
            Snap to = new Snap();
            Map<Num, Num> twin = new HashMap<>();
            for (Num n : nums) {
                Num m = new Num();
                m.value = n.value;
                m.kept = n.kept;
                twin.put(n, m);
                to.nums.add(m);
            }
            for (Num[] p : pairs) {
                to.pairs.add(new Num[] {twin.get(p[0]), twin.get(p[1])});
            }
            to.heaps = heaps;
            return to;
        }

        Num[] pair(Num a, Num b) {
            for (Num[] p : pairs) {
                if (p[0] == a && p[1] == b || p[0] == b && p[1] == a) {
                    return p;
                }
            }
            return null;
        }
    }

    static final class Fault extends RuntimeException {
        private static final long serialVersionUID = 1;

        final int number;
        final int place;

        Fault(int number, int place) {
            this.number = number;
            this.place = place;
        }
    }

    static final class Item {
        int value;
        TreeSet<Integer> one = new TreeSet<>();
        TreeSet<Integer> two = new TreeSet<>();

        int leastPlace() {
            return Math.min(one.isEmpty() ? 99 : one.first(), two.isEmpty() ? 99 : two.first());
        }
    }

    static final class Part {
        int value;
        TreeSet<Integer> nums = new TreeSet<>();

        int leastPlace() {
            return nums.isEmpty() ? 99 : nums.first();
        }
    }

    static final class Rows {
        int spread = -1;
        int times;
        int[] first;
        int flat = -1;
        int allowed;
    }

    private final List<Integer> tape = new ArrayList<>();
    private Snap now;
    private final List<Snap> past = new ArrayList<>();
    private final Snap[] images = new Snap[2];
    private String written = "";
    private int trouble;
    private int where = -1;
    private int fault;

    private int no(int number) {
        trouble = number;
        where = -1;
        return -1;
    }

    private int yes(int value) {
        trouble = 0;
        where = -1;
        return value;
    }

    private boolean lacks(int i) {
        return now == null || i < 0 || i >= now.nums.size();
    }

    private static boolean badK(int k) {
        return k < 2 || k > 4;
    }

    public int feed(int a, int b, int c, int d, int e) {
        if (tape.size() > 280) {
            return -1;
        }
        for (int w : new int[] {a, b, c, d, e}) {
            tape.add(w >>> 24);
            tape.add(w >>> 16 & 255);
            tape.add(w >>> 8 & 255);
            tape.add(w & 255);
        }
        return tape.size();
    }

    public int text(int n) {
        if (n < 0 || n > tape.size()) {
            return no(2);
        }
        StringBuilder text = new StringBuilder();
        for (int j = 0; j < n; j++) {
            text.append((char) (int) tape.get(j));
        }
        tape.clear();
        try {
            now = parse(text.toString());
        } catch (Fault f) {
            fault = f.number;
            trouble = 4;
            where = f.place;
            return -1;
        }
        fault = 0;
        past.clear();
        images[0] = null;
        images[1] = null;
        return yes(now.nums.size());
    }

    /** All TOKENS, a sound one by itself, a bad one as "!", the end as "". */
    private static TreeMap<Integer, String> tokens(String text) {
        TreeMap<Integer, String> found = new TreeMap<>();
        int at = 0;
        while (at < text.length()) {
            String rest = text.substring(at);
            String letters = rest.replaceFirst("(?s)^([a-z]*).*$", "$1");
            String digits = rest.replaceFirst("(?s)^([0-9]*).*$", "$1");
            if (rest.charAt(0) == ' ') {
                at++;
            } else if (!letters.isEmpty()) {
                found.put(at, letters.length() > 6 ? "!" : letters);
                at += letters.length();
            } else if (!digits.isEmpty()) {
                found.put(at, digits.length() > 4 ? "!" : digits);
                at += digits.length();
            } else {
                found.put(at, rest.charAt(0) == ';' || rest.charAt(0) == ',' ? rest.substring(0, 1) : "!");
                at++;
            }
        }
        found.put(text.length(), "");
        return found;
    }

    /** A machine with a state for what must come next. */
    private static Snap parse(String text) {
        Snap snap = new Snap();
        String want = "line";
        boolean heapsTold = false;
        int first = 0;
        for (Map.Entry<Integer, String> token : tokens(text).entrySet()) {
            int place = token.getKey();
            String t = token.getValue();
            boolean whole = t.matches("[0-9]+");
            int w = whole ? Integer.parseInt(t) : -1;
            int count = snap.nums.size();
            if (want.equals("line")) {
                if (!t.equals("number") && !t.equals("heaps") && !t.equals("keep") && !t.equals("apart")) {
                    throw new Fault(1, place);
                }
                if (t.equals("heaps") && heapsTold) {
                    throw new Fault(3, place);
                }
                if (t.equals("apart") && snap.pairs.size() == 6) {
                    throw new Fault(4, place);
                }
                heapsTold |= t.equals("heaps");
                want = t;
            } else if (want.equals("number")) {
                demand(whole, 1, place);
                demand(w >= 1, 2, place);
                demand(count < 10, 4, place);
                Num n = new Num();
                n.value = w;
                snap.nums.add(n);
                want = "comma or end";
            } else if (want.equals("heaps")) {
                demand(whole, 1, place);
                demand(w >= 2 && w <= 4, 2, place);
                snap.heaps = w;
                want = "end";
            } else if (want.equals("keep")) {
                demand(whole, 1, place);
                demand(w < count, 2, place);
                demand(snap.nums.get(w).kept == -2, 3, place);
                first = w;
                want = "in";
            } else if (want.equals("in")) {
                demand(t.equals("in"), 1, place);
                want = "heap";
            } else if (want.equals("heap")) {
                demand(whole, 1, place);
                demand(w <= 3, 2, place);
                snap.nums.get(first).kept = w;
                want = "end";
            } else if (want.equals("apart")) {
                demand(whole, 1, place);
                demand(w < count, 2, place);
                first = w;
                want = "second";
            } else if (want.equals("second")) {
                demand(whole, 1, place);
                demand(w < count, 2, place);
                demand(w != first && snap.pair(snap.nums.get(first), snap.nums.get(w)) == null, 3, place);
                snap.pairs.add(new Num[] {snap.nums.get(first), snap.nums.get(w)});
                want = "end";
            } else if (t.equals(",") && want.equals("comma or end")) {
                want = "number";
            } else if (t.equals(";")) {
                want = "line";
            } else {
                demand(t.isEmpty(), 1, place);
                demand(count > 0, 5, place);
            }
        }
        return snap;
    }

    private static void demand(boolean holds, int number, int place) {
        if (!holds) {
            throw new Fault(number, place);
        }
    }

    public int fault() {
        return fault;
    }

    public int where() {
        return where;
    }

    private List<Integer> bySize() {
        List<Integer> places = new ArrayList<>();
        for (int i = 0; i < now.nums.size(); i++) {
            places.add(i);
        }
        places.sort(Comparator.comparing((Integer i) -> -now.nums.get(i).value).thenComparing(i -> i));
        return places;
    }

    private int value(int i) {
        return now.nums.get(i).value;
    }

    private int total() {
        int sum = 0;
        for (Num n : now.nums) {
            sum += n.value;
        }
        return sum;
    }

    public int about(int what) {
        if (now == null || what < 0 || what > 7) {
            return no(1);
        }
        int kept = 0;
        int most = 0;
        int least = 10000;
        for (Num n : now.nums) {
            kept += n.kept == -2 ? 0 : 1;
            most = Math.max(most, n.value);
            least = Math.min(least, n.value);
        }
        int[] all = {now.nums.size(), now.heaps, total(), kept, now.pairs.size(), past.size(), most, least};
        return yes(all[what]);
    }

    public int number(int i, int what) {
        if (lacks(i) || what < 0 || what > 3) {
            return no(1);
        }
        int bits = 0;
        for (int j = 0; j < now.nums.size(); j++) {
            if (now.pair(now.nums.get(i), now.nums.get(j)) != null) {
                bits += 1 << j;
            }
        }
        int[] all = {value(i), bySize().indexOf(i), now.nums.get(i).kept, bits};
        return yes(all[what]);
    }

    public int sized(int j) {
        return lacks(j) ? no(1) : yes(bySize().get(j));
    }

    private int[] sumsOf(int[] row, int k) {
        int[] sums = new int[k];
        for (int i = 0; i < row.length; i++) {
            sums[row[i]] += value(i);
        }
        return sums;
    }

    private int greatest(int[] row, int k) {
        return java.util.Arrays.stream(sumsOf(row, k)).max().getAsInt();
    }

    private int spread(int[] row, int k) {
        return greatest(row, k) - java.util.Arrays.stream(sumsOf(row, k)).min().getAsInt();
    }

    private int[] greedyRow(int k) {
        int[] row = new int[now.nums.size()];
        int[] sums = new int[k];
        for (int i : bySize()) {
            int to = 0;
            for (int h = k - 1; h >= 0; h--) {
                if (sums[h] <= sums[to]) {
                    to = h;
                }
            }
            row[i] = to;
            sums[to] += value(i);
        }
        return row;
    }

    public int greedy(int k, int what) {
        if (now == null || what < 0 || what > 1) {
            return no(1);
        }
        if (badK(k)) {
            return no(2);
        }
        return yes(what == 0 ? spread(greedyRow(k), k) : greatest(greedyRow(k), k));
    }

    public int greedyOf(int k, int i) {
        return lacks(i) ? no(1) : badK(k) ? no(2) : yes(greedyRow(k)[i]);
    }

    private static void order(List<Item> items) {
        items.sort(Comparator.comparing((Item t) -> -t.value).thenComparing(Item::leastPlace));
    }

    private List<Item> items() {
        List<Item> items = new ArrayList<>();
        for (int i = 0; i < now.nums.size(); i++) {
            Item t = new Item();
            t.value = value(i);
            t.one.add(i);
            items.add(t);
        }
        order(items);
        return items;
    }

    private static List<Item> joined(List<Item> items, boolean bySum) {
        List<Item> next = new ArrayList<>(items);
        Item a = next.remove(0);
        Item b = next.remove(0);
        Item c = new Item();
        c.value = bySum ? a.value + b.value : a.value - b.value;
        c.one.addAll(a.one);
        c.one.addAll(bySum ? b.one : b.two);
        c.two.addAll(a.two);
        c.two.addAll(bySum ? b.two : b.one);
        next.add(c);
        order(next);
        return next;
    }

    private static int side(TreeSet<Integer> first, int i) {
        return first.contains(i) == first.contains(0) ? 0 : 1;
    }

    private List<Item> differenced(int steps) {
        List<Item> items = items();
        for (int j = 0; j < steps; j++) {
            items = joined(items, false);
        }
        return items;
    }

    public int difference() {
        return now == null ? no(1) : yes(differenced(now.nums.size() - 1).get(0).value);
    }

    public int differenceOf(int i) {
        return lacks(i) ? no(1) : yes(side(differenced(now.nums.size() - 1).get(0).one, i));
    }

    public int step(int j, int what) {
        if (now == null || j < 0 || j > now.nums.size() - 2 || what < 0 || what > 1) {
            return no(1);
        }
        return yes(differenced(j).get(what).value);
    }

    private static int width(List<Part> item) {
        return item.get(0).value - item.get(item.size() - 1).value;
    }

    private static int leastPlace(List<Part> item) {
        int least = 99;
        for (Part p : item) {
            least = Math.min(least, p.leastPlace());
        }
        return least;
    }

    private List<Part> multiParts(int k) {
        List<List<Part>> items = new ArrayList<>();
        for (int i = 0; i < now.nums.size(); i++) {
            List<Part> item = new ArrayList<>();
            for (int p = 0; p < k; p++) {
                item.add(new Part());
            }
            item.get(0).value = value(i);
            item.get(0).nums.add(i);
            items.add(item);
        }
        while (true) {
            items.sort(Comparator.comparing((List<Part> t) -> -width(t)).thenComparing(PlainHeaps::leastPlace));
            if (items.size() == 1) {
                return items.get(0);
            }
            List<Part> a = items.remove(0);
            List<Part> b = items.remove(0);
            List<Part> c = new ArrayList<>();
            int least = Integer.MAX_VALUE;
            for (int p = 0; p < k; p++) {
                Part both = new Part();
                both.value = a.get(p).value + b.get(k - 1 - p).value;
                both.nums.addAll(a.get(p).nums);
                both.nums.addAll(b.get(k - 1 - p).nums);
                least = Math.min(least, both.value);
                c.add(both);
            }
            for (Part p : c) {
                p.value -= least;
            }
            c.sort(Comparator.comparing((Part p) -> -p.value).thenComparing(Part::leastPlace));
            items.add(c);
        }
    }

    public int multi(int k) {
        return now == null ? no(1) : badK(k) ? no(2) : yes(width(multiParts(k)));
    }

    public int multiOf(int k, int i) {
        if (lacks(i)) {
            return no(1);
        }
        if (badK(k)) {
            return no(2);
        }
        List<Part> parts = multiParts(k);
        for (int p = 0; p < k; p++) {
            if (parts.get(p).nums.contains(i)) {
                return yes(p);
            }
        }
        throw new IllegalStateException("a NUMBER is lost");
    }

    private int visited;
    private int leaves;
    private final List<int[]> finds = new ArrayList<>();
    private TreeSet<Integer> foundSide;
    private boolean perfect;

    private void searchAll() {
        visited = 0;
        leaves = 0;
        finds.clear();
        perfect = false;
        visit(items());
    }

    private void visit(List<Item> items) {
        if (perfect) {
            return;
        }
        visited++;
        int others = 0;
        for (Item t : items.subList(1, items.size())) {
            others += t.value;
        }
        int leaf = items.get(0).value - others;
        if (items.size() > 1 && leaf < 0) {
            visit(joined(items, false));
            visit(joined(items, true));
            return;
        }
        leaves++;
        if (finds.isEmpty() || leaf < finds.get(finds.size() - 1)[0]) {
            finds.add(new int[] {leaf, visited});
            foundSide = new TreeSet<>(items.get(0).one);
            for (Item t : items.subList(1, items.size())) {
                foundSide.addAll(t.two);
            }
        }
        perfect = leaf == total() % 2;
    }

    public int search(int what) {
        if (now == null || what < 0 || what > 4) {
            return no(1);
        }
        searchAll();
        int[] all = {finds.get(finds.size() - 1)[0], visited, leaves, finds.size(), perfect ? 1 : 0};
        return yes(all[what]);
    }

    public int find(int j, int what) {
        if (now == null || j < 0 || what < 0 || what > 1) {
            return no(1);
        }
        searchAll();
        return j >= finds.size() ? no(1) : yes(finds.get(j)[what]);
    }

    public int searchOf(int i) {
        if (lacks(i)) {
            return no(1);
        }
        searchAll();
        return yes(side(foundSide, i));
    }

    public int bound(int k) {
        if (now == null) {
            return no(1);
        }
        if (badK(k)) {
            return no(2);
        }
        List<Integer> sized = bySize();
        int most = Math.max(total() / k + (total() % k == 0 ? 0 : 1), value(sized.get(0)));
        if (sized.size() > k) {
            most = Math.max(most, value(sized.get(k - 1)) + value(sized.get(k)));
        }
        return yes(most);
    }

    private boolean allowed(int[] row) {
        for (int i = 0; i < row.length; i++) {
            if (now.nums.get(i).kept != -2 && now.nums.get(i).kept != row[i]) {
                return false;
            }
        }
        for (Num[] p : now.pairs) {
            if (row[now.nums.indexOf(p[0])] == row[now.nums.indexOf(p[1])]) {
                return false;
            }
        }
        return true;
    }

    private String rowsKey = "";
    private Rows rowsKept;

    private Rows allRows(int k) {
        StringBuilder key = new StringBuilder().append(k);
        for (int i = 0; i < now.nums.size(); i++) {
            key.append(' ').append(value(i)).append(' ').append(now.nums.get(i).kept);
        }
        for (Num[] p : now.pairs) {
            key.append(' ').append(now.nums.indexOf(p[0])).append('-').append(now.nums.indexOf(p[1]));
        }
        if (!rowsKey.equals(key.toString())) {
            rowsKey = key.toString();
            rowsKept = reckonRows(k);
        }
        return rowsKept;
    }

    private Rows reckonRows(int k) {
        Rows rows = new Rows();
        int n = now.nums.size();
        int[] row = new int[n];
        while (true) {
            if (allowed(row)) {
                rows.allowed++;
                int s = spread(row, k);
                int g = greatest(row, k);
                rows.flat = rows.flat < 0 ? g : Math.min(g, rows.flat);
                if (rows.spread < 0 || s < rows.spread) {
                    rows.spread = s;
                    rows.times = 0;
                    rows.first = row.clone();
                }
                rows.times += s == rows.spread ? 1 : 0;
            }
            int at = n - 1;
            while (at >= 0 && row[at] == k - 1) {
                row[at] = 0;
                at--;
            }
            if (at < 0) {
                return rows;
            }
            row[at]++;
        }
    }

    public int least(int k, int what) {
        if (now == null || what < 0 || what > 1) {
            return no(1);
        }
        if (badK(k)) {
            return no(2);
        }
        Rows rows = allRows(k);
        return rows.allowed == 0 ? no(6) : yes(what == 0 ? rows.spread : rows.times);
    }

    public int leastOf(int k, int i) {
        if (lacks(i)) {
            return no(1);
        }
        if (badK(k)) {
            return no(2);
        }
        return allRows(k).allowed == 0 ? no(6) : yes(allRows(k).first[i]);
    }

    public int flat(int k) {
        if (now == null) {
            return no(1);
        }
        if (badK(k)) {
            return no(2);
        }
        return allRows(k).allowed == 0 ? no(6) : yes(allRows(k).flat);
    }

    public int rows(int k) {
        return now == null ? no(1) : badK(k) ? no(2) : yes(allRows(k).allowed);
    }

    private int climbChanges;

    private int[] climbRow(int k) {
        int[] row = greedyRow(k);
        climbChanges = 0;
        while (true) {
            List<int[]> then = new ArrayList<>();
            for (int i = 0; i < row.length; i++) {
                for (int h = 0; h < k; h++) {
                    int[] next = row.clone();
                    next[i] = h;
                    then.add(next);
                }
            }
            for (int i = 0; i < row.length; i++) {
                for (int j = i + 1; j < row.length; j++) {
                    int[] next = row.clone();
                    next[i] = row[j];
                    next[j] = row[i];
                    then.add(next);
                }
            }
            then.sort(Comparator.comparing(r -> spread(r, k)));
            if (spread(then.get(0), k) >= spread(row, k)) {
                return row;
            }
            row = then.get(0);
            climbChanges++;
        }
    }

    public int climb(int k, int what) {
        if (now == null || what < 0 || what > 1) {
            return no(1);
        }
        if (badK(k)) {
            return no(2);
        }
        int[] row = climbRow(k);
        return yes(what == 0 ? spread(row, k) : climbChanges);
    }

    public int climbOf(int k, int i) {
        return lacks(i) ? no(1) : badK(k) ? no(2) : yes(climbRow(k)[i]);
    }

    /** Of each sum that sets have these sets. */
    private TreeMap<Integer, List<Integer>> sets() {
        TreeMap<Integer, List<Integer>> sets = new TreeMap<>();
        for (int set = 0; set < 1 << now.nums.size(); set++) {
            int sum = 0;
            for (int i = 0; i < now.nums.size(); i++) {
                sum += (set >> i & 1) * value(i);
            }
            sets.computeIfAbsent(sum, s -> new ArrayList<>()).add(set);
        }
        return sets;
    }

    private static boolean badSum(int s) {
        return s < 0 || s > 99999;
    }

    public int ways(int s) {
        return now == null ? no(1) : badSum(s) ? no(2) : yes(sets().getOrDefault(s, List.of()).size());
    }

    public int chosen(int s) {
        if (now == null) {
            return no(1);
        }
        if (badSum(s)) {
            return no(2);
        }
        int best = -2;
        for (int set : sets().getOrDefault(s, List.of())) {
            if (best == -2 || Integer.bitCount(set) < Integer.bitCount(best)) {
                best = set;
            }
        }
        return yes(best);
    }

    public int sums() {
        return now == null ? no(1) : yes(sets().size());
    }

    public int nearest(int s) {
        if (now == null) {
            return no(1);
        }
        if (badSum(s)) {
            return no(2);
        }
        int best = -1;
        for (int sum : sets().keySet()) {
            if (best < 0 || Math.abs(sum - s) < Math.abs(best - s)) {
                best = sum;
            }
        }
        return yes(best);
    }

    private void act() {
        past.add(now.copy());
        if (past.size() > 10) {
            past.remove(0);
        }
    }

    public int add(int v) {
        if (now == null) {
            return no(1);
        }
        if (v < 1 || v > 9999) {
            return no(2);
        }
        if (now.nums.size() == 10) {
            return no(3);
        }
        act();
        Num n = new Num();
        n.value = v;
        now.nums.add(n);
        return yes(now.nums.size());
    }

    public int drop(int i) {
        if (lacks(i)) {
            return no(1);
        }
        if (now.nums.size() == 1) {
            return no(5);
        }
        act();
        Num gone = now.nums.remove(i);
        now.pairs.removeIf(p -> p[0] == gone || p[1] == gone);
        return yes(gone.value);
    }

    public int become(int i, int v) {
        if (lacks(i)) {
            return no(1);
        }
        if (v < 1 || v > 9999) {
            return no(2);
        }
        act();
        int was = value(i);
        now.nums.get(i).value = v;
        return yes(was);
    }

    public int keepIn(int i, int h) {
        if (lacks(i)) {
            return no(1);
        }
        if (h < -2 || h == -1 || h > 3) {
            return no(2);
        }
        act();
        int was = now.nums.get(i).kept;
        now.nums.get(i).kept = h;
        return yes(was);
    }

    public int apart(int i, int j) {
        if (lacks(i) || lacks(j)) {
            return no(1);
        }
        boolean were = now.pair(now.nums.get(i), now.nums.get(j)) != null;
        if (now.pairs.size() == 6 && !were) {
            return no(3);
        }
        if (i == j) {
            return no(5);
        }
        act();
        Num a = now.nums.get(i);
        Num b = now.nums.get(j);
        if (were) {
            now.pairs.remove(now.pair(a, b));
        } else {
            now.pairs.add(new Num[] {a, b});
        }
        return yes(now.pairs.size());
    }

    public int sort() {
        if (now == null) {
            return no(1);
        }
        act();
        List<Num> was = new ArrayList<>(now.nums);
        now.nums.sort(Comparator.comparing(n -> -n.value));
        int moved = 0;
        for (int i = 0; i < was.size(); i++) {
            moved += was.get(i) == now.nums.get(i) ? 0 : 1;
        }
        return yes(moved);
    }

    public int heaps(int k) {
        if (now == null) {
            return no(1);
        }
        if (badK(k)) {
            return no(2);
        }
        act();
        int was = now.heaps;
        now.heaps = k;
        return yes(was);
    }

    public int undo() {
        if (now == null) {
            return no(1);
        }
        if (past.isEmpty()) {
            return no(5);
        }
        now = past.remove(past.size() - 1);
        return yes(past.size());
    }

    public boolean image(int i) {
        if (now == null || i < 0 || i > 1) {
            no(1);
            return false;
        }
        images[i] = now.copy();
        yes(0);
        return true;
    }

    public boolean back(int i) {
        if (i < 0 || i > 1 || images[i] == null) {
            no(1);
            return false;
        }
        now = images[i].copy();
        past.clear();
        yes(0);
        return true;
    }

    public int write() {
        if (now == null) {
            return no(1);
        }
        Rows rows = allRows(now.heaps);
        if (rows.allowed == 0) {
            return no(6);
        }
        List<String> heaps = new ArrayList<>();
        for (int h = 0; h < now.heaps; h++) {
            List<String> heap = new ArrayList<>();
            for (int i = 0; i < now.nums.size(); i++) {
                if (rows.first[i] == h) {
                    heap.add(Integer.toString(value(i)));
                }
            }
            heaps.add(heap.isEmpty() ? "0" : String.join("+", heap));
        }
        written = String.join("/", heaps);
        return yes(written.length());
    }

    public int octet(int j) throws NoSuchElementException {
        if (j < 0 || j >= written.length()) {
            throw new NoSuchElementException();
        }
        return written.charAt(j);
    }

    public int bytes() {
        return tape.size();
    }

    public int trouble() {
        return trouble;
    }
}
