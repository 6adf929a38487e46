import java.util.NoSuchElementException;

/** Numbers parted into heaps; ../shared/DOC.md says what each call answers. */
public final class NumberHeaps {
    /** There is none; refused. */
    public static final int NONE = -1;

    /** What is told of a NUMBER that is kept in no HEAP, and of a sum that no set has. */
    private static final int FREE = -2;

    private static final int TAPE_ROOM = 300;
    private static final int FED_AT_ONCE = 20;
    private static final int MOST_NUMBERS = 10;
    private static final int GREATEST_VALUE = 9999;
    private static final int LEAST_HEAPS = 2;
    private static final int MOST_HEAPS = 4;
    private static final int MOST_PAIRS = 6;
    private static final int MOST_ACTS = 10;
    private static final int IMAGES = 2;
    private static final int GREATEST_SUM_ASKED = 99999;
    /** Ten NUMBERS of four digits each with a sign behind it, up to three HEAPS that are empty. */
    private static final int WRITTEN_ROOM = 64;

    private static final int NOT_REFUSED = 0;
    private static final int NONE_SUCH = 1;
    private static final int BAD_NUMBER = 2;
    private static final int NO_ROOM = 3;
    private static final int FAULTY = 4;
    private static final int NOT_SO = 5;
    private static final int THERE_IS_NONE = 6;

    private final Reader reader = new Reader();
    private final State state = new State();
    private final History history = new History();
    /** Grows with every change, so that what was reckoned for an earlier state is known as such. */
    private int version = 0;
    private final Filling filling = new Filling();
    private final Differencing differencing = new Differencing();
    private final Search searching = new Search();
    private final Multi several = new Multi();
    /** That of the fewest HEAPS first. */
    private final Partings[] partings = new Partings[MOST_HEAPS - LEAST_HEAPS + 1];
    private final SetSums setSums = new SetSums();
    private final byte[] written = new byte[WRITTEN_ROOM];
    private int writtenBytes = 0;
    private int troubleNumber = NOT_REFUSED;
    private int faultNumber = 0;
    private int faultPlace = NONE;

    public NumberHeaps() {
        for (int k = LEAST_HEAPS; k <= MOST_HEAPS; k++) {
            partings[k - LEAST_HEAPS] = new Partings(k);
        }
    }

    // ---- texts

    public int feed(int a, int b, int c, int d, int e) {
        if (reader.taped + FED_AT_ONCE > TAPE_ROOM) {
            return NONE;
        }
        reader.putFour(a);
        reader.putFour(b);
        reader.putFour(c);
        reader.putFour(d);
        reader.putFour(e);
        return reader.taped;
    }

    public int text(int n) {
        if (n < 0 || n > reader.taped) {
            return refuse(BAD_NUMBER);
        }
        boolean sound = reader.readText(n);
        faultNumber = reader.faultFound;
        if (!sound) {
            refuse(FAULTY);
            faultPlace = reader.start;
            return NONE;
        }
        state.copyFrom(reader.told);
        history.forgetActs();
        history.forgetImages();
        changed();
        return answer(state.count);
    }

    public int fault() {
        return faultNumber;
    }

    public int where() {
        return faultPlace;
    }

    // ---- what is told

    public int about(int what) {
        if (noText()) {
            return refuse(NONE_SUCH);
        }
        switch (what) {
            case 0: return answer(state.count);
            case 1: return answer(state.heapCount);
            case 2: return answer(state.total());
            case 3: return answer(state.keptCount());
            case 4: return answer(state.pairs());
            case 5: return answer(history.acts);
            case 6: return answer(state.values[state.bySize[0]]);
            case 7: return answer(state.values[state.bySize[state.count - 1]]);
            default: return refuse(NONE_SUCH);
        }
    }

    public int number(int i, int what) {
        if (noNumber(i)) {
            return refuse(NONE_SUCH);
        }
        switch (what) {
            case 0: return answer(state.values[i]);
            case 1: return answer(state.placeBySize(i));
            case 2: return answer(state.keeper[i]);
            case 3: return answer(state.foes[i]);
            default: return refuse(NONE_SUCH);
        }
    }

    public int sized(int j) {
        if (noNumber(j)) {
            return refuse(NONE_SUCH);
        }
        return answer(state.bySize[j]);
    }

    // ---- heaps filled, differenced

    public int greedy(int k, int what) {
        if (refused(noText() || notZeroOrOne(what), noSuchHeaps(k))) {
            return NONE;
        }
        filling.fillBySize(state, k);
        return answer(what == 0 ? filling.spread() : filling.greatest());
    }

    public int greedyOf(int k, int i) {
        if (refused(noNumber(i), noSuchHeaps(k))) {
            return NONE;
        }
        filling.fillBySize(state, k);
        return answer(filling.heapOf[i]);
    }

    public int difference() {
        if (noText()) {
            return refuse(NONE_SUCH);
        }
        differencing.run(state);
        return answer(differencing.row.values[0]);
    }

    public int differenceOf(int i) {
        if (noNumber(i)) {
            return refuse(NONE_SUCH);
        }
        differencing.run(state);
        return answer(sideOf(i, differencing.row.firsts[0]));
    }

    public int step(int j, int what) {
        if (noText() || notZeroOrOne(what) || j < 0 || j >= state.count - 1) {
            return refuse(NONE_SUCH);
        }
        differencing.run(state);
        return answer(what == 0 ? differencing.greater[j] : differencing.lesser[j]);
    }

    public int multi(int k) {
        if (refused(noText(), noSuchHeaps(k))) {
            return NONE;
        }
        several.run(state, k);
        return answer(several.lastWidth());
    }

    public int multiOf(int k, int i) {
        if (refused(noNumber(i), noSuchHeaps(k))) {
            return NONE;
        }
        several.run(state, k);
        return answer(several.heapOf(i));
    }

    // ---- the search

    public int search(int what) {
        if (noText()) {
            return refuse(NONE_SUCH);
        }
        searching.prepare(state, version);
        switch (what) {
            case 0: return answer(searching.least);
            case 1: return answer(searching.visited);
            case 2: return answer(searching.leaves);
            case 3: return answer(searching.finds);
            case 4: return answer(searching.perfect ? 1 : 0);
            default: return refuse(NONE_SUCH);
        }
    }

    public int find(int j, int what) {
        if (noText() || notZeroOrOne(what) || j < 0) {
            return refuse(NONE_SUCH);
        }
        searching.prepare(state, version);
        if (j >= searching.finds) {
            return refuse(NONE_SUCH);
        }
        return answer(what == 0 ? searching.found[j] : searching.foundAt[j]);
    }

    public int searchOf(int i) {
        if (noNumber(i)) {
            return refuse(NONE_SUCH);
        }
        searching.prepare(state, version);
        return answer(sideOf(i, searching.firstSide));
    }

    // ---- all rows

    public int bound(int k) {
        if (refused(noText(), noSuchHeaps(k))) {
            return NONE;
        }
        int most = Math.max((state.total() + k - 1) / k, state.values[state.bySize[0]]);
        if (state.count > k) {
            most = Math.max(most, state.values[state.bySize[k - 1]] + state.values[state.bySize[k]]);
        }
        return answer(most);
    }

    public int least(int k, int what) {
        if (refused(noText() || notZeroOrOne(what), noSuchHeaps(k))) {
            return NONE;
        }
        Partings all = allRows(k);
        if (!all.findLeast(state, version)) {
            return refuse(THERE_IS_NONE);
        }
        return answer(what == 0 ? all.spread : all.times);
    }

    public int leastOf(int k, int i) {
        if (refused(noNumber(i), noSuchHeaps(k))) {
            return NONE;
        }
        Partings all = allRows(k);
        if (!all.findLeast(state, version)) {
            return refuse(THERE_IS_NONE);
        }
        return answer(all.theRow[i]);
    }

    public int flat(int k) {
        if (refused(noText(), noSuchHeaps(k))) {
            return NONE;
        }
        Partings all = allRows(k);
        if (!all.findLeast(state, version)) {
            return refuse(THERE_IS_NONE);
        }
        return answer(all.flattest);
    }

    public int rows(int k) {
        if (refused(noText(), noSuchHeaps(k))) {
            return NONE;
        }
        return answer(allRows(k).countAllowed(state));
    }

    public int climb(int k, int what) {
        if (refused(noText() || notZeroOrOne(what), noSuchHeaps(k))) {
            return NONE;
        }
        filling.improve(state, k);
        return answer(what == 0 ? filling.spread() : filling.changes);
    }

    public int climbOf(int k, int i) {
        if (refused(noNumber(i), noSuchHeaps(k))) {
            return NONE;
        }
        filling.improve(state, k);
        return answer(filling.heapOf[i]);
    }

    // ---- sums

    public int ways(int s) {
        if (refused(noText(), noSuchSum(s))) {
            return NONE;
        }
        setSums.prepare(state, version);
        return answer(setSums.setsWith(s));
    }

    public int chosen(int s) {
        if (refused(noText(), noSuchSum(s))) {
            return NONE;
        }
        setSums.prepare(state, version);
        return answer(setSums.leastSetWith(s));
    }

    public int sums() {
        if (noText()) {
            return refuse(NONE_SUCH);
        }
        setSums.prepare(state, version);
        return answer(setSums.unlikeSums());
    }

    public int nearest(int s) {
        if (refused(noText(), noSuchSum(s))) {
            return NONE;
        }
        setSums.prepare(state, version);
        return answer(setSums.sumNextTo(s));
    }

    // ---- acts

    public int add(int v) {
        if (refused(noText(), noSuchValue(v))) {
            return NONE;
        }
        if (state.count >= MOST_NUMBERS) {
            return refuse(NO_ROOM);
        }
        history.keepAct(state);
        state.append(v);
        changed();
        return answer(state.count);
    }

    public int drop(int i) {
        if (noNumber(i)) {
            return refuse(NONE_SUCH);
        }
        if (state.count == 1) {
            return refuse(NOT_SO);
        }
        int was = state.values[i];
        history.keepAct(state);
        state.remove(i);
        changed();
        return answer(was);
    }

    public int become(int i, int v) {
        if (refused(noNumber(i), noSuchValue(v))) {
            return NONE;
        }
        int was = state.values[i];
        history.keepAct(state);
        state.values[i] = v;
        changed();
        return answer(was);
    }

    public int keepIn(int i, int h) {
        if (refused(noNumber(i), h != FREE && (h < 0 || h >= MOST_HEAPS))) {
            return NONE;
        }
        int was = state.keeper[i];
        history.keepAct(state);
        state.keeper[i] = h;
        changed();
        return answer(was);
    }

    public int apart(int i, int j) {
        if (noNumber(i) || noNumber(j)) {
            return refuse(NONE_SUCH);
        }
        if (state.pairs() >= MOST_PAIRS && !state.areApart(i, j)) {
            return refuse(NO_ROOM);
        }
        if (i == j) {
            return refuse(NOT_SO);
        }
        history.keepAct(state);
        state.toggleApart(i, j);
        changed();
        return answer(state.pairs());
    }

    public int sort() {
        if (noText()) {
            return refuse(NONE_SUCH);
        }
        int moved = 0;
        for (int j = 0; j < state.count; j++) {
            if (state.bySize[j] != j) {
                moved++;
            }
        }
        state.layBySize(history.keepAct(state));
        changed();
        return answer(moved);
    }

    public int heaps(int k) {
        if (refused(noText(), noSuchHeaps(k))) {
            return NONE;
        }
        int was = state.heapCount;
        history.keepAct(state);
        state.heapCount = k;
        changed();
        return answer(was);
    }

    public int undo() {
        if (noText()) {
            return refuse(NONE_SUCH);
        }
        if (history.acts == 0) {
            return refuse(NOT_SO);
        }
        history.takeBack(state);
        changed();
        return answer(history.acts);
    }

    public boolean image(int i) {
        if (noText() || i < 0 || i >= IMAGES) {
            refuse(NONE_SUCH);
            return false;
        }
        history.images[i].copyFrom(state);
        answer(i);
        return true;
    }

    public boolean back(int i) {
        if (i < 0 || i >= IMAGES || history.images[i].count == 0) {
            refuse(NONE_SUCH);
            return false;
        }
        state.copyFrom(history.images[i]);
        history.forgetActs();
        changed();
        answer(i);
        return true;
    }

    // ---- written

    public int write() {
        if (noText()) {
            return refuse(NONE_SUCH);
        }
        Partings all = allRows(state.heapCount);
        if (!all.findLeast(state, version)) {
            return refuse(THERE_IS_NONE);
        }
        writtenBytes = 0;
        for (int h = 0; h < state.heapCount; h++) {
            if (h > 0) {
                putByte('/');
            }
            putHeap(h, all.theRow);
        }
        return answer(writtenBytes);
    }

    public int octet(int j) throws NoSuchElementException {
        if (j < 0 || j >= writtenBytes) {
            throw new NoSuchElementException();
        }
        return written[j];
    }

    public int bytes() {
        return reader.taped;
    }

    public int trouble() {
        return troubleNumber;
    }

    // ---- what the calls share

    private int refuse(int number) {
        troubleNumber = number;
        faultPlace = NONE;
        return NONE;
    }

    /** What most calls ask first; is both so, what is told first counts. */
    private boolean refused(boolean noneSuch, boolean badNumber) {
        if (noneSuch) {
            refuse(NONE_SUCH);
        } else if (badNumber) {
            refuse(BAD_NUMBER);
        }
        return noneSuch || badNumber;
    }

    private int answer(int value) {
        troubleNumber = NOT_REFUSED;
        faultPlace = NONE;
        return value;
    }

    /** A TEXT tells at least one NUMBER, and the only one is never dropped. */
    private boolean noText() {
        return state.count == 0;
    }

    private boolean noNumber(int i) {
        return i < 0 || i >= state.count;
    }

    private static boolean noSuchHeaps(int k) {
        return k < LEAST_HEAPS || k > MOST_HEAPS;
    }

    private static boolean noSuchValue(int v) {
        return v < 1 || v > GREATEST_VALUE;
    }

    private static boolean noSuchSum(int s) {
        return s < 0 || s > GREATEST_SUM_ASKED;
    }

    private static boolean notZeroOrOne(int what) {
        return what < 0 || what > 1;
    }

    /** What isn't 2 .. 4 counts as the nearest of these; the calls ask ahead. */
    private Partings allRows(int k) {
        return partings[Math.max(LEAST_HEAPS, Math.min(k, MOST_HEAPS)) - LEAST_HEAPS];
    }

    private void changed() {
        state.orderBySize();
        version++;
    }

    private void putByte(int b) {
        if (writtenBytes < WRITTEN_ROOM) {
            written[writtenBytes] = (byte) b;
            writtenBytes++;
        }
    }

    private void putHeap(int h, int[] row) {
        boolean empty = true;
        for (int i = 0; i < state.count; i++) {
            if (row[i] == h) {
                if (!empty) {
                    putByte('+');
                }
                putNumber(state.values[i]);
                empty = false;
            }
        }
        if (empty) {
            putByte('0');
        }
    }

    private void putNumber(int v) {
        for (int unit = 1000; unit > 0; unit /= 10) {
            if (v >= unit) {
                putByte('0' + v / unit % 10);
            }
        }
    }

    /** SIDES as told: 0 is that on which NUMBER 0 lies. */
    private static int sideOf(int i, int firstSide) {
        return ((firstSide >> i) & 1) == (firstSide & 1) ? 0 : 1;
    }

    /** The NUMBER of the least place in a set, as its bit; behind all others if the set is empty. */
    private static int leastMember(int set) {
        return set == 0 ? 1 << MOST_NUMBERS : set & -set;
    }

    private static int greatestAmong(int[] heapSums, int k) {
        int most = heapSums[0];
        for (int h = 1; h < k; h++) {
            most = Math.max(most, heapSums[h]);
        }
        return most;
    }

    private static int leastAmong(int[] heapSums, int k) {
        int least = heapSums[0];
        for (int h = 1; h < k; h++) {
            least = Math.min(least, heapSums[h]);
        }
        return least;
    }

    /** NUMBERS, HEAPS, what is kept, apart; no NUMBERS: no TEXT. */
    private static final class State {
        int count = 0;
        int heapCount = LEAST_HEAPS;
        final int[] values = new int[MOST_NUMBERS];
        /** The HEAP in which a NUMBER is kept, or FREE. */
        final int[] keeper = new int[MOST_NUMBERS];
        /** The NUMBERS (bits) from which a NUMBER lies apart. */
        final int[] foes = new int[MOST_NUMBERS];
        final int[] bySize = new int[MOST_NUMBERS];

        void copyFrom(State other) {
            count = other.count;
            heapCount = other.heapCount;
            System.arraycopy(other.values, 0, values, 0, MOST_NUMBERS);
            System.arraycopy(other.keeper, 0, keeper, 0, MOST_NUMBERS);
            System.arraycopy(other.foes, 0, foes, 0, MOST_NUMBERS);
            System.arraycopy(other.bySize, 0, bySize, 0, MOST_NUMBERS);
        }

        void empty() {
            count = 0;
            heapCount = LEAST_HEAPS;
        }

        void append(int v) {
            if (count < MOST_NUMBERS) {
                values[count] = v;
                keeper[count] = FREE;
                foes[count] = 0;
                count++;
            }
        }

        void remove(int i) {
            for (int j = 0; j < count; j++) {
                foes[j] = withoutBit(foes[j], i);
            }
            for (int j = i; j < count - 1; j++) {
                values[j] = values[j + 1];
                keeper[j] = keeper[j + 1];
                foes[j] = foes[j + 1];
            }
            count--;
        }

        /** Bits above i move down by one, as the NUMBERS behind i move up. */
        private static int withoutBit(int bits, int i) {
            int below = bits & ((1 << i) - 1);
            int above = bits >> (i + 1);
            return below | (above << i);
        }

        /** Takes the NUMBERS of a copy of this state in their order BY SIZE. */
        void layBySize(State before) {
            for (int j = 0; j < count; j++) {
                int from = before.bySize[j];
                values[j] = before.values[from];
                keeper[j] = before.keeper[from];
                foes[j] = 0;
                for (int other = 0; other < count; other++) {
                    if (before.areApart(from, before.bySize[other])) {
                        foes[j] |= 1 << other;
                    }
                }
            }
        }

        void orderBySize() {
            for (int i = 0; i < count; i++) {
                int at = i;
                while (at > 0 && values[bySize[at - 1]] < values[i]) {
                    bySize[at] = bySize[at - 1];
                    at--;
                }
                bySize[at] = i;
            }
        }

        int placeBySize(int i) {
            for (int j = 0; j < count; j++) {
                if (bySize[j] == i) {
                    return j;
                }
            }
            return NONE;
        }

        boolean areApart(int i, int j) {
            return ((foes[i] >> j) & 1) == 1;
        }

        void toggleApart(int i, int j) {
            foes[i] ^= 1 << j;
            foes[j] ^= 1 << i;
        }

        int pairs() {
            int ends = 0;
            for (int i = 0; i < count; i++) {
                ends += Integer.bitCount(foes[i]);
            }
            return ends / 2;
        }

        int keptCount() {
            int kept = 0;
            for (int i = 0; i < count; i++) {
                if (keeper[i] != FREE) {
                    kept++;
                }
            }
            return kept;
        }

        int total() {
            int sum = 0;
            for (int i = 0; i < count; i++) {
                sum += values[i];
            }
            return sum;
        }
    }

    /** States ahead of the latest ACTS, in a ring, and the IMAGES. */
    private static final class History {
        private final State[] past = new State[MOST_ACTS];
        private int next = 0;
        int acts = 0;
        /** An IMAGE without NUMBERS isn't kept. */
        final State[] images = new State[IMAGES];

        History() {
            for (int i = 0; i < MOST_ACTS; i++) {
                past[i] = new State();
            }
            for (int i = 0; i < IMAGES; i++) {
                images[i] = new State();
            }
        }

        /** Answers the copy that is kept. */
        State keepAct(State now) {
            State kept = past[next];
            kept.copyFrom(now);
            next = (next + 1) % MOST_ACTS;
            acts = Math.min(acts + 1, MOST_ACTS);
            return kept;
        }

        void takeBack(State now) {
            next = (next + MOST_ACTS - 1) % MOST_ACTS;
            acts--;
            now.copyFrom(past[next]);
        }

        void forgetActs() {
            acts = 0;
        }

        void forgetImages() {
            for (int i = 0; i < IMAGES; i++) {
                images[i].empty();
            }
        }
    }

    /** THE TAPE; a TEXT is read from it, TOKEN by TOKEN, up to the first FAULT. */
    private static final class Reader {
        private static final int END = 0;
        private static final int WORD = 1;
        private static final int WHOLE = 2;
        private static final int SEMICOLON = 3;
        private static final int COMMA = 4;
        private static final int BAD = 5;

        private static final int FORM = 1;
        private static final int BOUNDS = 2;
        private static final int AGAIN = 3;
        private static final int TOO_MANY = 4;
        private static final int NO_NUMBER = 5;

        private static final int LONGEST_WORD = 6;
        private static final int LONGEST_WHOLE = 4;

        int taped = 0;
        final State told = new State();
        int faultFound = 0;
        /** Where the latest TOKEN begins: the place of the FAULT, if there is one. */
        int start = 0;

        private final byte[] tape = new byte[TAPE_ROOM];
        private int length = 0;
        private int at = 0;
        private int kind = END;
        private int whole = 0;
        private boolean heapsTold = false;

        /** Four bytes, the highest first. */
        void putFour(int four) {
            for (int shift = 24; shift >= 0; shift -= 8) {
                if (taped < TAPE_ROOM) {
                    tape[taped] = (byte) (four >> shift);
                    taped++;
                }
            }
        }

        /** THE TAPE is empty then; answers whether there is no FAULT. */
        boolean readText(int n) {
            length = Math.min(n, TAPE_ROOM);
            taped = 0;
            at = 0;
            faultFound = 0;
            heapsTold = false;
            told.empty();
            nextToken();
            return readLines();
        }

        private boolean readLines() {
            for (int line = 0; line <= length; line++) {
                if (!readLine()) {
                    return false;
                }
                if (kind == END) {
                    return told.count > 0 || stop(NO_NUMBER);
                }
                if (kind != SEMICOLON) {
                    return stop(FORM);
                }
                nextToken();
            }
            return stop(FORM);
        }

        private boolean stop(int fault) {
            faultFound = fault;
            return false;
        }

        private boolean readLine() {
            if (isWord("number")) {
                return readNumbers();
            }
            if (isWord("heaps")) {
                return readHeaps();
            }
            if (isWord("keep")) {
                return readKeep();
            }
            if (isWord("apart")) {
                return readApart();
            }
            return stop(FORM);
        }

        private boolean readNumbers() {
            for (int turn = 0; turn <= length; turn++) {
                nextToken();
                if (!wholeWithin(1, GREATEST_VALUE)) {
                    return false;
                }
                if (told.count >= MOST_NUMBERS) {
                    return stop(TOO_MANY);
                }
                told.append(whole);
                nextToken();
                if (kind != COMMA) {
                    return true;
                }
            }
            return stop(FORM);
        }

        private boolean readHeaps() {
            if (heapsTold) {
                return stop(AGAIN);
            }
            heapsTold = true;
            nextToken();
            if (!wholeWithin(LEAST_HEAPS, MOST_HEAPS)) {
                return false;
            }
            told.heapCount = whole;
            nextToken();
            return true;
        }

        private boolean readKeep() {
            nextToken();
            if (!wholeWithin(0, told.count - 1)) {
                return false;
            }
            int i = whole;
            if (told.keeper[i] != FREE) {
                return stop(AGAIN);
            }
            nextToken();
            if (!isWord("in")) {
                return stop(FORM);
            }
            nextToken();
            if (!wholeWithin(0, MOST_HEAPS - 1)) {
                return false;
            }
            told.keeper[i] = whole;
            nextToken();
            return true;
        }

        private boolean readApart() {
            if (told.pairs() >= MOST_PAIRS) {
                return stop(TOO_MANY);
            }
            nextToken();
            if (!wholeWithin(0, told.count - 1)) {
                return false;
            }
            int i = whole;
            nextToken();
            if (!wholeWithin(0, told.count - 1)) {
                return false;
            }
            if (whole == i || told.areApart(i, whole)) {
                return stop(AGAIN);
            }
            told.toggleApart(i, whole);
            nextToken();
            return true;
        }

        private boolean wholeWithin(int least, int greatest) {
            if (kind != WHOLE) {
                return stop(FORM);
            }
            return whole >= least && whole <= greatest || stop(BOUNDS);
        }

        private boolean isWord(String word) {
            if (kind != WORD || at - start != word.length()) {
                return false;
            }
            for (int j = 0; j < word.length(); j++) {
                if (tape[start + j] != word.charAt(j)) {
                    return false;
                }
            }
            return true;
        }

        private void nextToken() {
            while (at < length && tape[at] == ' ') {
                at++;
            }
            start = at;
            if (at >= length) {
                kind = END;
            } else if (isLetter(tape[at])) {
                takeWord();
            } else if (isDigit(tape[at])) {
                takeWhole();
            } else {
                takeSign();
            }
        }

        private void takeWord() {
            while (at < length && isLetter(tape[at])) {
                at++;
            }
            kind = at - start <= LONGEST_WORD ? WORD : BAD;
        }

        private void takeWhole() {
            whole = 0;
            while (at < length && isDigit(tape[at])) {
                whole = at - start < LONGEST_WHOLE ? whole * 10 + tape[at] - '0' : whole;
                at++;
            }
            kind = at - start <= LONGEST_WHOLE ? WHOLE : BAD;
        }

        private void takeSign() {
            kind = tape[at] == ';' ? SEMICOLON : tape[at] == ',' ? COMMA : BAD;
            at++;
        }

        private static boolean isLetter(int b) {
            return b >= 'a' && b <= 'z';
        }

        private static boolean isDigit(int b) {
            return b >= '0' && b <= '9';
        }
    }

    /** GREEDY's ROW, and CLIMB, which begins with it. */
    private static final class Filling {
        final int[] heapOf = new int[MOST_NUMBERS];
        int changes = 0;

        /** A SPREAD is at most TOTAL, and each change makes it less. */
        private static final int MOST_CHANGES = 1000000;

        private final int[] heapSums = new int[MOST_HEAPS];
        private int k = LEAST_HEAPS;
        private int bestSpread = 0;
        private int bestNumber = 0;
        private int bestHeap = 0;
        /** The NUMBER exchanged with; NONE: it is a move. */
        private int bestOther = NONE;

        void fillBySize(State state, int heapCount) {
            k = heapCount;
            for (int h = 0; h < MOST_HEAPS; h++) {
                heapSums[h] = 0;
            }
            for (int j = 0; j < state.count; j++) {
                int i = state.bySize[j];
                int h = leastHeap();
                heapOf[i] = h;
                heapSums[h] += state.values[i];
            }
        }

        private int leastHeap() {
            int least = 0;
            for (int h = 1; h < k; h++) {
                if (heapSums[h] < heapSums[least]) {
                    least = h;
                }
            }
            return least;
        }

        int greatest() {
            return greatestAmong(heapSums, k);
        }

        int spread() {
            return greatestAmong(heapSums, k) - leastAmong(heapSums, k);
        }

        void improve(State state, int heapCount) {
            fillBySize(state, heapCount);
            changes = 0;
            for (int turn = 0; turn < MOST_CHANGES; turn++) {
                bestSpread = spread();
                bestNumber = NONE;
                tryMoves(state);
                tryExchanges(state);
                if (bestNumber == NONE) {
                    return;
                }
                makeBest(state);
                changes++;
            }
        }

        private void tryMoves(State state) {
            for (int i = 0; i < state.count; i++) {
                for (int h = 0; h < k; h++) {
                    consider(i, h, NONE, state.values[i]);
                }
            }
        }

        private void tryExchanges(State state) {
            for (int i = 0; i < state.count; i++) {
                for (int j = i + 1; j < state.count; j++) {
                    consider(i, heapOf[j], j, state.values[i] - state.values[j]);
                }
            }
        }

        /** Only what is less than all ahead of it is taken, so the order of trying settles like ones. */
        private void consider(int i, int heap, int other, int amount) {
            if (heap == heapOf[i]) {
                return;
            }
            shift(heapOf[i], heap, amount);
            int then = spread();
            shift(heap, heapOf[i], amount);
            if (then < bestSpread) {
                bestSpread = then;
                bestNumber = i;
                bestHeap = heap;
                bestOther = other;
            }
        }

        private void shift(int from, int to, int amount) {
            heapSums[from] -= amount;
            heapSums[to] += amount;
        }

        private void makeBest(State state) {
            int from = heapOf[bestNumber];
            shift(from, bestHeap, state.values[bestNumber]);
            heapOf[bestNumber] = bestHeap;
            if (bestOther != NONE) {
                shift(bestHeap, from, state.values[bestOther]);
                heapOf[bestOther] = from;
            }
        }
    }

    /** ITEMS in order, each with a value and NUMBERS (bits) on two SIDES. */
    private static final class ItemRow {
        int count = 0;
        final int[] values = new int[MOST_NUMBERS];
        final int[] firsts = new int[MOST_NUMBERS];
        final int[] seconds = new int[MOST_NUMBERS];

        void takeNumbers(State state) {
            count = 0;
            for (int i = 0; i < state.count; i++) {
                insert(state.values[i], 1 << i, 0);
            }
        }

        void copyFrom(ItemRow other) {
            count = other.count;
            System.arraycopy(other.values, 0, values, 0, MOST_NUMBERS);
            System.arraycopy(other.firsts, 0, firsts, 0, MOST_NUMBERS);
            System.arraycopy(other.seconds, 0, seconds, 0, MOST_NUMBERS);
        }

        /** The first two become one, by their sum or by their difference. */
        void joinFirstTwo(boolean bySum) {
            if (count < 2) {
                return;
            }
            int value = bySum ? values[0] + values[1] : values[0] - values[1];
            int first = firsts[0] | (bySum ? firsts[1] : seconds[1]);
            int second = seconds[0] | (bySum ? seconds[1] : firsts[1]);
            count -= 2;
            System.arraycopy(values, 2, values, 0, count);
            System.arraycopy(firsts, 2, firsts, 0, count);
            System.arraycopy(seconds, 2, seconds, 0, count);
            insert(value, first, second);
        }

        private void insert(int value, int first, int second) {
            if (count >= MOST_NUMBERS) {
                return;
            }
            int at = count;
            while (at > 0 && goesAhead(value, leastMember(first | second), at - 1)) {
                values[at] = values[at - 1];
                firsts[at] = firsts[at - 1];
                seconds[at] = seconds[at - 1];
                at--;
            }
            values[at] = value;
            firsts[at] = first;
            seconds[at] = second;
            count++;
        }

        private boolean goesAhead(int value, int least, int j) {
            return value > values[j]
                || value == values[j] && least < leastMember(firsts[j] | seconds[j]);
        }

        /** The first value less all others together: below 0 if the row is no LEAF. */
        int firstLessOthers() {
            int rest = values[0];
            for (int j = 1; j < count; j++) {
                rest -= values[j];
            }
            return rest;
        }

        /** All others than the first ITEM come against it. */
        int leafFirstSide() {
            int side = firsts[0];
            for (int j = 1; j < count; j++) {
                side |= seconds[j];
            }
            return side;
        }
    }

    /** DIFFERENCING; at last its row has one ITEM. */
    private static final class Differencing {
        final ItemRow row = new ItemRow();
        final int[] greater = new int[MOST_NUMBERS];
        final int[] lesser = new int[MOST_NUMBERS];

        void run(State state) {
            row.takeNumbers(state);
            for (int j = 0; j < state.count - 1; j++) {
                greater[j] = row.values[0];
                lesser[j] = row.values[1];
                row.joinFirstTwo(false);
            }
        }
    }

    /** SEARCH, kept for the state for which it was made. */
    private static final class Search {
        /** Each row that is no LEAF has two rows of one ITEM less. */
        private static final int MOST_LEAVES = 1 << (MOST_NUMBERS - 1);

        int least = 0;
        int visited = 0;
        int leaves = 0;
        int finds = 0;
        boolean perfect = false;
        int firstSide = 0;
        final int[] found = new int[MOST_LEAVES];
        final int[] foundAt = new int[MOST_LEAVES];

        private final ItemRow[] rowAt = new ItemRow[MOST_NUMBERS];
        private int totalModuloTwo = 0;
        private int madeFor = NONE;

        Search() {
            for (int depth = 0; depth < MOST_NUMBERS; depth++) {
                rowAt[depth] = new ItemRow();
            }
        }

        void prepare(State state, int version) {
            if (madeFor == version) {
                return;
            }
            madeFor = version;
            visited = 0;
            leaves = 0;
            finds = 0;
            perfect = false;
            totalModuloTwo = state.total() % 2;
            rowAt[0].takeNumbers(state);
            visit(0);
        }

        private void visit(int depth) {
            ItemRow row = rowAt[depth];
            visited++;
            int value = row.firstLessOthers();
            if (row.count == 1 || value >= 0) {
                takeLeaf(row, value);
                return;
            }
            visitBelow(depth, false);
            if (!perfect) {
                visitBelow(depth, true);
            }
        }

        private void visitBelow(int depth, boolean bySum) {
            if (depth + 1 >= MOST_NUMBERS) {
                return;
            }
            ItemRow row = rowAt[depth + 1];
            row.copyFrom(rowAt[depth]);
            row.joinFirstTwo(bySum);
            visit(depth + 1);
        }

        private void takeLeaf(ItemRow row, int value) {
            leaves++;
            if (leaves > 1 && value >= least || finds >= MOST_LEAVES) {
                return;
            }
            least = value;
            found[finds] = value;
            foundAt[finds] = visited;
            finds++;
            firstSide = row.leafFirstSide();
            perfect = value == totalModuloTwo;
        }
    }

    /** MULTI: an ITEM bears the number of one of its NUMBERS, and goes when it becomes part of another. */
    private static final class Multi {
        private final int[][] values = new int[MOST_NUMBERS][MOST_HEAPS];
        private final int[][] members = new int[MOST_NUMBERS][MOST_HEAPS];
        private final boolean[] gone = new boolean[MOST_NUMBERS];
        private int items = 0;
        private int k = LEAST_HEAPS;
        private int last = 0;

        void run(State state, int heapCount) {
            k = heapCount;
            items = state.count;
            last = 0;
            for (int i = 0; i < items; i++) {
                gone[i] = false;
                for (int p = 0; p < k; p++) {
                    values[i][p] = p == 0 ? state.values[i] : 0;
                    members[i][p] = p == 0 ? 1 << i : 0;
                }
            }
            for (int turn = 1; turn < items; turn++) {
                int a = firstItemBut(NONE);
                int b = firstItemBut(a);
                if (a != NONE && b != NONE) {
                    join(a, b);
                    last = a;
                }
            }
        }

        int lastWidth() {
            return width(last);
        }

        int heapOf(int i) {
            for (int p = 0; p < k; p++) {
                if (((members[last][p] >> i) & 1) == 1) {
                    return p;
                }
            }
            return NONE;
        }

        private int firstItemBut(int except) {
            int first = NONE;
            for (int i = 0; i < items; i++) {
                if (!gone[i] && i != except && (first == NONE || itemGoesAhead(i, first))) {
                    first = i;
                }
            }
            return first;
        }

        private boolean itemGoesAhead(int i, int j) {
            return width(i) > width(j)
                || width(i) == width(j) && leastMember(allMembers(i)) < leastMember(allMembers(j));
        }

        private int width(int i) {
            return values[i][0] - values[i][k - 1];
        }

        private int allMembers(int i) {
            int all = 0;
            for (int p = 0; p < k; p++) {
                all |= members[i][p];
            }
            return all;
        }

        private void join(int a, int b) {
            for (int p = 0; p < k; p++) {
                values[a][p] += values[b][k - 1 - p];
                members[a][p] |= members[b][k - 1 - p];
            }
            gone[b] = true;
            orderParts(values[a], members[a]);
            int least = values[a][k - 1];
            for (int p = 0; p < k; p++) {
                values[a][p] -= least;
            }
        }

        private void orderParts(int[] value, int[] member) {
            for (int p = 1; p < k; p++) {
                int v = value[p];
                int m = member[p];
                int at = p;
                while (at > 0 && (v > value[at - 1]
                        || v == value[at - 1] && leastMember(m) < leastMember(member[at - 1]))) {
                    value[at] = value[at - 1];
                    member[at] = member[at - 1];
                    at--;
                }
                value[at] = v;
                member[at] = m;
            }
        }
    }

    /**
     * All ALLOWED ROWS of k HEAPS. HEAPS that are empty so far, and in which no NUMBER is kept, are alike: of
     * these only the least is gone into, and what is found there counts as often as there are such HEAPS. The
     * first ROW of its kind is always among those gone through.
     */
    private static final class Partings {
        /** Greater than any TOTAL. */
        private static final int BEYOND_ALL = 1000000;

        int spread = BEYOND_ALL;
        /** How many ALLOWED ROWS have that SPREAD. */
        int times = 0;
        int flattest = BEYOND_ALL;
        final int[] theRow = new int[MOST_NUMBERS];

        private final int k;
        private final int[] row = new int[MOST_NUMBERS];
        private final int[] heapSums = new int[MOST_HEAPS];
        private final int[] members = new int[MOST_HEAPS];
        /** HEAPS (bits) in which some NUMBER is kept. */
        private int named = 0;
        private int total = 0;
        private boolean counting = false;
        private int allowed = 0;
        private int madeFor = NONE;

        Partings(int k) {
            this.k = k;
        }

        /** Answers whether a ROW is ALLOWED. */
        boolean findLeast(State now, int version) {
            if (madeFor != version) {
                madeFor = version;
                spread = BEYOND_ALL;
                times = 0;
                flattest = BEYOND_ALL;
                begin(now, false);
            }
            return times > 0;
        }

        int countAllowed(State now) {
            allowed = 0;
            begin(now, true);
            return allowed;
        }

        private void begin(State now, boolean onlyCount) {
            counting = onlyCount;
            total = now.total();
            named = 0;
            for (int i = 0; i < now.count; i++) {
                if (now.keeper[i] != FREE) {
                    named |= 1 << now.keeper[i];
                }
            }
            for (int h = 0; h < MOST_HEAPS; h++) {
                heapSums[h] = 0;
                members[h] = 0;
            }
            if (named >> k == 0) {
                place(now, 0, 1, total);
            }
        }

        /** Goes on with NUMBER i; rest: what the NUMBERS from i on come to. */
        private void place(State now, int i, int weight, int rest) {
            if (i >= now.count) {
                takeRow(weight);
            } else if (counting && now.foes[i] == 0) {
                placeAnywhere(now, i, weight, rest);
            } else if (counting || hopeful(rest)) {
                placeInEach(now, i, weight, rest);
            }
        }

        /** A NUMBER from which none lies apart hinders no other: where it lies only counts. */
        private void placeAnywhere(State now, int i, int weight, int rest) {
            int choices = now.keeper[i] == FREE ? k : 1;
            place(now, i + 1, weight * choices, rest - now.values[i]);
        }

        private void placeInEach(State now, int i, int weight, int rest) {
            int value = now.values[i];
            boolean entered = false;
            for (int h = 0; h < k; h++) {
                boolean nameless = isNameless(h);
                if (mayLie(now, i, h) && !(nameless && entered)) {
                    int like = nameless ? namelessHeaps() : 1;
                    entered = entered || nameless;
                    row[i] = h;
                    heapSums[h] += value;
                    members[h] |= 1 << i;
                    place(now, i + 1, weight * like, rest - value);
                    members[h] ^= 1 << i;
                    heapSums[h] -= value;
                }
            }
        }

        private boolean isNameless(int h) {
            return members[h] == 0 && ((named >> h) & 1) == 0;
        }

        private int namelessHeaps() {
            int nameless = 0;
            for (int h = 0; h < k; h++) {
                nameless += isNameless(h) ? 1 : 0;
            }
            return nameless;
        }

        private boolean mayLie(State now, int i, int h) {
            return (now.keeper[i] == FREE || now.keeper[i] == h) && (members[h] & now.foes[i]) == 0;
        }

        /** Whether a ROW that begins so may have as little SPREAD as the best, or a lesser greatest HEAP. */
        private boolean hopeful(int rest) {
            int most = greatestAmong(heapSums, k);
            int least = leastAmong(heapSums, k);
            int leastAtLast = Math.min(least + rest, (total - most) / (k - 1));
            int mostAtLast = Math.max(most, (total - least - rest + k - 2) / (k - 1));
            return mostAtLast - leastAtLast <= spread || mostAtLast < flattest;
        }

        private void takeRow(int weight) {
            if (counting) {
                allowed += weight;
                return;
            }
            int most = greatestAmong(heapSums, k);
            int least = leastAmong(heapSums, k);
            flattest = Math.min(flattest, most);
            if (most - least < spread) {
                spread = most - least;
                times = 0;
                System.arraycopy(row, 0, theRow, 0, MOST_NUMBERS);
            }
            if (most - least == spread) {
                times += weight;
            }
        }
    }

    /** All sets of NUMBERS in order of their sums, of like ones by how many NUMBERS, then by their bits. */
    private static final class SetSums {
        private static final int SETS = 1 << MOST_NUMBERS;
        /** A key tells a set's sum, its size, its bits: 17, 4, 10 of its own bits. */
        private static final int SIZE_SHIFT = 10;
        private static final int SUM_SHIFT = 14;

        private int[] keys = new int[SETS];
        private int[] spare = new int[SETS];
        private int sets = 0;
        private int madeFor = NONE;

        void prepare(State state, int version) {
            if (madeFor == version) {
                return;
            }
            madeFor = version;
            keys[0] = 0;
            sets = 1;
            for (int i = 0; i < state.count; i++) {
                mergeWith((state.values[i] << SUM_SHIFT) + (1 << SIZE_SHIFT) + (1 << i));
            }
        }

        /** Every set, and every set with one NUMBER more, whose key is greater by so much. */
        private void mergeWith(int more) {
            int both = 2 * sets;
            if (both > SETS) {
                return;
            }
            int without = 0;
            int with = 0;
            for (int at = 0; at < both; at++) {
                if (with >= sets || without < sets && keys[without] < keys[with] + more) {
                    spare[at] = keys[without];
                    without++;
                } else {
                    spare[at] = keys[with] + more;
                    with++;
                }
            }
            int[] merged = spare;
            spare = keys;
            keys = merged;
            sets = both;
        }

        private int sumAt(int at) {
            return keys[at] >> SUM_SHIFT;
        }

        /** The first set whose sum is no less than s; how many sets there are, if there is none. */
        private int firstFrom(int s) {
            int at = 0;
            for (int leap = SETS; leap > 0; leap /= 2) {
                if (at + leap <= sets && sumAt(at + leap - 1) < s) {
                    at += leap;
                }
            }
            return at;
        }

        int setsWith(int s) {
            return firstFrom(s + 1) - firstFrom(s);
        }

        int leastSetWith(int s) {
            int at = firstFrom(s);
            return at < sets && sumAt(at) == s ? keys[at] & (SETS - 1) : FREE;
        }

        int unlikeSums() {
            int unlike = 1;
            for (int at = 1; at < sets; at++) {
                unlike += sumAt(at) != sumAt(at - 1) ? 1 : 0;
            }
            return unlike;
        }

        int sumNextTo(int s) {
            int at = firstFrom(s);
            if (at >= sets) {
                return sumAt(sets - 1);
            }
            if (at == 0) {
                return sumAt(0);
            }
            int below = sumAt(at - 1);
            int above = sumAt(at);
            return s - below <= above - s ? below : above;
        }
    }
}
