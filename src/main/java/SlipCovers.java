import java.util.Arrays;
import java.util.NoSuchElementException;

/** Codes among words of few digits, and which words lie within some slips of them. */
public final class SlipCovers {
    public static final int NONE = -1;

    private static final int NOT_SO_MANY = -2;

    private static final int NO_SUCH = 1;
    private static final int BAD_NUMBER = 2;
    private static final int NO_ROOM = 3;
    private static final int FAULTY = 4;
    private static final int NOT_SO = 5;

    private static final int MOST_CODES = 8;
    private static final int MOST_PLACES = 8;
    private static final int MOST_WORDS = 256;
    private static final int MOST_SLIPS = 24;
    private static final int MOST_ACTS = 10;
    private static final int LEAST_SIZE = 2;
    private static final int MOST_SIZE = 4;
    private static final int LEAST_WEIGHT = 1;
    private static final int MOST_WEIGHT = 3;

    /** Searches over exchanges and fewest words are for spaces up to this size. */
    private static final int MOST_SEARCHED = 81;
    private static final int MOST_EXCHANGES = 99;
    private static final int MOST_TAKEN = 8;
    private static final int MOST_STEPS = 60000;

    private final Reader reader = new Reader();
    private final Code[] codes = new Code[MOST_CODES];
    /** What an act makes stands here first: the code that it goes to may be one that it reads. */
    private final Code fresh = new Code();
    private final History history = new History();
    private final Ground ground = new Ground();
    private final Search search = new Search();
    private final Exchange exchange = new Exchange();
    private int latestFault;
    private int latestTrouble;
    private int latestWhere = NONE;

    public SlipCovers() {
        for (int c = 0; c < codes.length; c++) {
            codes[c] = new Code();
        }
    }

    // ---- texts

    public int feed(int a, int b, int c, int d, int e) {
        if (!reader.hasRoom()) {
            return NONE;
        }
        reader.append(a);
        reader.append(b);
        reader.append(c);
        reader.append(d);
        reader.append(e);
        return reader.filled;
    }

    public int text(int n) {
        if (n < 0 || n > reader.filled) {
            return refuse(BAD_NUMBER);
        }
        boolean sound = reader.read(n);
        reader.filled = 0;
        latestFault = reader.fault;
        if (!sound) {
            refuse(FAULTY);
            latestWhere = reader.at;
            return NONE;
        }
        for (int c = 0; c < MOST_CODES; c++) {
            codes[c].clear();
        }
        reader.handOut(codes);
        history.forget();
        return accept(reader.told);
    }

    public int fault() {
        return latestFault;
    }

    public int where() {
        return latestWhere;
    }

    // ---- words

    public int about(int c, int what) {
        if (!isCode(c) || what < 0 || what > 5) {
            return refuse(NO_SUCH);
        }
        return accept(aspect(codes[c], what));
    }

    public int place(int c, int i, int what) {
        if (!isPlace(c, i) || what < 0 || what > 1) {
            return refuse(NO_SUCH);
        }
        return accept(what == 0 ? codes[c].sizes[i] : codes[c].weights[i]);
    }

    public int word(int c, int k) {
        if (!isCode(c) || k < 0) {
            return refuse(NO_SUCH);
        }
        return accept(codes[c].codeword(k));
    }

    public int has(int c, int w) {
        if (!isWord(c, w)) {
            return refuse(NO_SUCH);
        }
        return accept(codes[c].holds(w) ? 1 : 0);
    }

    public int digit(int c, int w, int i) {
        if (!isWord(c, w) || !isPlace(c, i)) {
            return refuse(NO_SUCH);
        }
        ground.lay(codes[c]);
        return accept(ground.digitAt(w, i));
    }

    public int far(int c, int w, int v) {
        if (!isWord(c, w) || !isWord(c, v)) {
            return refuse(NO_SUCH);
        }
        ground.lay(codes[c]);
        return accept(ground.distance(w, v));
    }

    public int ball(int c, int r) {
        int flaw = flawOf(isCode(c), isSlips(r));
        if (flaw != 0) {
            return refuse(flaw);
        }
        ground.lay(codes[c]);
        return accept(ground.ballSize(r));
    }

    public int ballAt(int c, int w, int r, int k) {
        int flaw = flawOf(isWord(c, w) && k >= 0, isSlips(r));
        if (flaw != 0) {
            return refuse(flaw);
        }
        ground.lay(codes[c]);
        return accept(ground.inBall(w, r, k));
    }

    // ---- what is covered

    public int covered(int c, int r) {
        int flaw = flawOf(isCode(c), isSlips(r));
        if (flaw != 0) {
            return refuse(flaw);
        }
        layTimes(codes[c], r);
        return accept(ground.words - ground.withTimes(0));
    }

    public int times(int c, int w, int r) {
        int flaw = flawOf(isWord(c, w), isSlips(r));
        if (flaw != 0) {
            return refuse(flaw);
        }
        layTimes(codes[c], r);
        return accept(ground.times[w]);
    }

    public int table(int c, int r, int k) {
        int flaw = flawOf(isCode(c), isSlips(r) && k >= 0);
        if (flaw != 0) {
            return refuse(flaw);
        }
        layTimes(codes[c], r);
        return accept(ground.withTimes(k));
    }

    public int hole(int c, int r, int k) {
        int flaw = flawOf(isCode(c) && k >= 0, isSlips(r));
        if (flaw != 0) {
            return refuse(flaw);
        }
        layTimes(codes[c], r);
        return accept(ground.holeAt(k));
    }

    public int idle(int c, int r, int k) {
        int flaw = flawOf(isCode(c) && k >= 0, isSlips(r));
        if (flaw != 0) {
            return refuse(flaw);
        }
        layTimes(codes[c], r);
        return accept(ground.idleAt(codes[c], r, k));
    }

    public int excess(int c, int r) {
        int flaw = flawOf(isCode(c), isSlips(r));
        if (flaw != 0) {
            return refuse(flaw);
        }
        layTimes(codes[c], r);
        return accept(ground.timesTooMany());
    }

    public int bound(int c, int r) {
        int flaw = flawOf(isCode(c), isSlips(r));
        if (flaw != 0) {
            return refuse(flaw);
        }
        ground.lay(codes[c]);
        return accept(ground.fewestByCount(r));
    }

    public int pairs(int c, int k) {
        int flaw = flawOf(isCode(c), k >= 0);
        if (flaw != 0) {
            return refuse(flaw);
        }
        ground.lay(codes[c]);
        return accept(ground.pairsApart(codes[c], k));
    }

    public int centre(int c, int what) {
        if (!isCode(c) || what < 0 || what > 1) {
            return refuse(NO_SUCH);
        }
        if (codes[c].count == 0) {
            return refuse(NOT_SO);
        }
        ground.lay(codes[c]);
        int middle = ground.middle(codes[c]);
        return accept(what == 0 ? middle : ground.farthest(codes[c], middle));
    }

    public int nearest(int c, int w) {
        if (!isWord(c, w)) {
            return refuse(NO_SUCH);
        }
        if (codes[c].count == 0) {
            return refuse(NOT_SO);
        }
        ground.lay(codes[c]);
        return accept(ground.closest(codes[c], w));
    }

    public int ring(int c, int w, int k) {
        int flaw = flawOf(isWord(c, w), k >= 0);
        if (flaw != 0) {
            return refuse(flaw);
        }
        ground.lay(codes[c]);
        return accept(ground.codewordsAt(codes[c], w, k));
    }

    public int column(int c, int i, int digit) {
        if (!isPlace(c, i)) {
            return refuse(NO_SUCH);
        }
        if (!isDigit(c, i, digit)) {
            return refuse(BAD_NUMBER);
        }
        ground.lay(codes[c]);
        return accept(ground.codewordsWith(codes[c], i, digit));
    }

    public int worth(int c, int w, int r) {
        int flaw = flawOf(isWord(c, w), isSlips(r));
        if (flaw != 0) {
            return refuse(flaw);
        }
        if (!codes[c].holds(w)) {
            return refuse(NOT_SO);
        }
        layTimes(codes[c], r);
        return accept(ground.onlyBy(w, r));
    }

    public int fewest(int c, int r, int what) {
        int flaw = flawOf(isCode(c) && what >= 0 && what <= 9, isSlips(r));
        if (flaw != 0) {
            return refuse(flaw);
        }
        if (codes[c].words > MOST_SEARCHED) {
            return refuse(NOT_SO);
        }
        ground.lay(codes[c]);
        search.run(ground, r);
        return accept(search.told(what));
    }

    // ---- acts

    public int set(int c, int w, boolean is) {
        if (!isWord(c, w)) {
            return refuse(NO_SUCH);
        }
        if (codes[c].holds(w) == is) {
            return refuse(NOT_SO);
        }
        fresh.copy(codes[c]);
        if (is) {
            fresh.put(w);
        } else {
            fresh.drop(w);
        }
        return act(c, fresh.count);
    }

    public int greedy(int c, int r) {
        int flaw = flawOf(isCode(c), isSlips(r));
        if (flaw != 0) {
            return refuse(flaw);
        }
        fresh.copy(codes[c]);
        layTimes(fresh, r);
        return act(c, ground.fill(fresh, r));
    }

    public int thin(int c, int r) {
        int flaw = flawOf(isCode(c), isSlips(r));
        if (flaw != 0) {
            return refuse(flaw);
        }
        fresh.copy(codes[c]);
        layTimes(fresh, r);
        return act(c, ground.weed(fresh, r));
    }

    public int better(int c, int r) {
        int flaw = flawOf(isCode(c), isSlips(r));
        if (flaw != 0) {
            return refuse(flaw);
        }
        if (codes[c].words > MOST_SEARCHED) {
            return refuse(NOT_SO);
        }
        fresh.copy(codes[c]);
        ground.lay(fresh);
        return act(c, exchange.run(fresh, ground, r));
    }

    public int sum(int to, int one, int other) {
        if (!isSlot(to) || !isCode(one) || !isCode(other)) {
            return refuse(NO_SUCH);
        }
        fresh.clear();
        if (!fresh.addPlaces(codes[one], 0) || !fresh.addPlaces(codes[other], 0)) {
            return refuse(NO_ROOM);
        }
        fresh.putPairs(codes[one], codes[other]);
        return act(to, fresh.count);
    }

    public int join(int to, int one, int other) {
        if (!isSlot(to) || !isCode(one) || !isCode(other)) {
            return refuse(NO_SUCH);
        }
        if (!codes[one].endsAsBegins(codes[other])) {
            return refuse(NOT_SO);
        }
        fresh.clear();
        if (!fresh.addPlaces(codes[one], 0) || !fresh.addPlaces(codes[other], 1)) {
            return refuse(NO_ROOM);
        }
        fresh.putJoined(codes[one], codes[other]);
        return act(to, fresh.count);
    }

    public int longer(int to, int c, int size, int weight) {
        int flaw = flawOf(isSlot(to) && isCode(c), isSize(size) && isWeight(weight));
        if (flaw != 0) {
            return refuse(flaw);
        }
        fresh.clear();
        if (!fresh.addPlaces(codes[c], 0) || !fresh.addPlace(size, weight)) {
            return refuse(NO_ROOM);
        }
        fresh.putLonger(codes[c], size);
        return act(to, fresh.count);
    }

    public int shorter(int to, int c, int i, int digit) {
        if (!isSlot(to) || !isPlace(c, i)) {
            return refuse(NO_SUCH);
        }
        if (!isDigit(c, i, digit)) {
            return refuse(BAD_NUMBER);
        }
        if (codes[c].places == 1) {
            return refuse(NOT_SO);
        }
        fresh.clear();
        fresh.addPlacesBut(codes[c], i);
        fresh.putShorter(codes[c], i, digit);
        return act(to, fresh.count);
    }

    public boolean swap(int to, int c, int i, int j) {
        if (!isSlot(to) || !isPlace(c, i) || !isPlace(c, j)) {
            refuse(NO_SUCH);
            return false;
        }
        ground.lay(codes[c]);
        fresh.clear();
        fresh.addPlacesSwapped(codes[c], i, j);
        fresh.putSwapped(codes[c], ground, i, j);
        act(to, fresh.count);
        return true;
    }

    public boolean shift(int to, int c, int i, int k) {
        int flaw = flawOf(isSlot(to) && isPlace(c, i), k >= 0 && k <= 3);
        if (flaw != 0) {
            refuse(flaw);
            return false;
        }
        fresh.copySpace(codes[c]);
        fresh.putShifted(codes[c], i, k);
        act(to, fresh.count);
        return true;
    }

    public int mix(int to, int one, int other, int what) {
        if (!isSlot(to) || !isCode(one) || !isCode(other) || what < 0 || what > 2) {
            return refuse(NO_SUCH);
        }
        if (!codes[one].hasSpaceOf(codes[other])) {
            return refuse(NOT_SO);
        }
        fresh.copySpace(codes[one]);
        fresh.putMixed(codes[one], codes[other], what);
        return act(to, fresh.count);
    }

    public int holes(int to, int c, int r) {
        int flaw = flawOf(isSlot(to) && isCode(c), isSlips(r));
        if (flaw != 0) {
            return refuse(flaw);
        }
        layTimes(codes[c], r);
        fresh.copySpace(codes[c]);
        for (int w = 0; w < fresh.words; w++) {
            if (ground.times[w] == 0) {
                fresh.put(w);
            }
        }
        return act(to, fresh.count);
    }

    public int undo() {
        if (history.kept == 0) {
            return refuse(NOT_SO);
        }
        history.giveBack(codes);
        return accept(history.kept);
    }

    // ---- what is told

    public int same(int one, int other) {
        if (!isCode(one) || !isCode(other)) {
            return refuse(NO_SUCH);
        }
        boolean alike = codes[one].hasSpaceOf(codes[other]) && codes[one].hasWordsOf(codes[other]);
        return accept(alike ? 1 : 0);
    }

    public int letter(int c, int k) throws NoSuchElementException {
        int letter = reader.letterOf(c, k);
        if (letter < 0) {
            throw new NoSuchElementException();
        }
        return letter;
    }

    public int bytes() {
        return reader.filled;
    }

    public int trouble() {
        return latestTrouble;
    }

    // ---- refusals

    private int refuse(int number) {
        latestTrouble = number;
        latestWhere = NONE;
        return NONE;
    }

    private int accept(int answer) {
        latestTrouble = 0;
        latestWhere = NONE;
        return answer;
    }

    /** The fresh code goes to its slot, and what was there is kept for undoing. */
    private int act(int to, int answer) {
        history.keep(to, codes[to]);
        codes[to].copy(fresh);
        return accept(answer);
    }

    /** Most calls tell what there is none of first, then numbers. */
    private static int flawOf(boolean exists, boolean inBounds) {
        if (!exists) {
            return NO_SUCH;
        }
        return inBounds ? 0 : BAD_NUMBER;
    }

    private static boolean isSlot(int c) {
        return c >= 0 && c < MOST_CODES;
    }

    private boolean isCode(int c) {
        return isSlot(c) && codes[c].isTold;
    }

    private boolean isWord(int c, int w) {
        return isCode(c) && w >= 0 && w < codes[c].words;
    }

    private boolean isPlace(int c, int i) {
        return isCode(c) && i >= 0 && i < codes[c].places;
    }

    private boolean isDigit(int c, int i, int digit) {
        return digit >= 0 && digit < codes[c].sizes[i];
    }

    private static boolean isSlips(int r) {
        return r >= 0 && r <= MOST_SLIPS;
    }

    private static boolean isSize(int size) {
        return size >= LEAST_SIZE && size <= MOST_SIZE;
    }

    private static boolean isWeight(int weight) {
        return weight >= LEAST_WEIGHT && weight <= MOST_WEIGHT;
    }

    private void layTimes(Code code, int r) {
        ground.lay(code);
        ground.countTimes(code, r);
    }

    private int aspect(Code code, int what) {
        switch (what) {
            case 0:
                return code.places;
            case 1:
                return code.words;
            case 2:
                return code.count;
            case 3:
                return code.allWeights();
            case 4:
                ground.lay(code);
                return code.count < 1 ? NOT_SO_MANY : ground.radius(code);
            default:
                ground.lay(code);
                return code.count < 2 ? NOT_SO_MANY : ground.leastApart(code);
        }
    }

    /** A space and the codewords in it; untold where there is none. */
    private static final class Code {
        private boolean isTold;
        private int places;
        private int words = 1;
        private int count;
        private final int[] sizes = new int[MOST_PLACES];
        private final int[] weights = new int[MOST_PLACES];
        /** A bit for each word. */
        private final long[] bits = new long[MOST_WORDS / 64];

        void clear() {
            isTold = false;
            places = 0;
            words = 1;
            dropAll();
        }

        void dropAll() {
            count = 0;
            Arrays.fill(bits, 0L);
        }

        void copy(Code other) {
            copySpace(other);
            isTold = other.isTold;
            count = other.count;
            System.arraycopy(other.bits, 0, bits, 0, bits.length);
        }

        void copySpace(Code other) {
            isTold = true;
            places = other.places;
            words = other.words;
            System.arraycopy(other.sizes, 0, sizes, 0, MOST_PLACES);
            System.arraycopy(other.weights, 0, weights, 0, MOST_PLACES);
            dropAll();
        }

        boolean hasRoomFor(int size) {
            return places < MOST_PLACES && words * size <= MOST_WORDS;
        }

        boolean addPlace(int size, int weight) {
            if (!isSize(size) || !isWeight(weight) || !hasRoomFor(size)) {
                return false;
            }
            isTold = true;
            sizes[places] = size;
            weights[places] = weight;
            places++;
            words *= size;
            return true;
        }

        boolean addPlaces(Code other, int from) {
            for (int i = from; i < other.places; i++) {
                if (!addPlace(other.sizes[i], other.weights[i])) {
                    return false;
                }
            }
            return true;
        }

        void addPlacesBut(Code other, int without) {
            for (int i = 0; i < other.places; i++) {
                if (i != without) {
                    addPlace(other.sizes[i], other.weights[i]);
                }
            }
        }

        void addPlacesSwapped(Code other, int i, int j) {
            for (int k = 0; k < other.places; k++) {
                int from = swapped(k, i, j);
                addPlace(other.sizes[from], other.weights[from]);
            }
        }

        private static int swapped(int k, int i, int j) {
            if (k == i) {
                return j;
            }
            return k == j ? i : k;
        }

        boolean holds(int w) {
            return w >= 0 && w < words && (bits[w >> 6] >>> (w & 63) & 1L) != 0;
        }

        void put(int w) {
            if (w >= 0 && w < words && !holds(w)) {
                bits[w >> 6] |= 1L << (w & 63);
                count++;
            }
        }

        void drop(int w) {
            if (holds(w)) {
                bits[w >> 6] &= ~(1L << (w & 63));
                count--;
            }
        }

        int codeword(int k) {
            int before = k;
            for (int w = 0; w < words; w++) {
                if (holds(w)) {
                    if (before == 0) {
                        return w;
                    }
                    before--;
                }
            }
            return NOT_SO_MANY;
        }

        int allWeights() {
            int all = 0;
            for (int i = 0; i < places; i++) {
                all += weights[i];
            }
            return all;
        }

        boolean hasSpaceOf(Code other) {
            if (places != other.places) {
                return false;
            }
            for (int i = 0; i < places; i++) {
                if (sizes[i] != other.sizes[i] || weights[i] != other.weights[i]) {
                    return false;
                }
            }
            return true;
        }

        boolean hasWordsOf(Code other) {
            for (int q = 0; q < bits.length; q++) {
                if (bits[q] != other.bits[q]) {
                    return false;
                }
            }
            return true;
        }

        boolean endsAsBegins(Code other) {
            if (places < 1 || other.places < 1) {
                return false;
            }
            int last = places - 1;
            return sizes[last] == other.sizes[0] && weights[last] == other.weights[0];
        }

        /** How many words places from, .. up to before till make. */
        private int wordsOf(int from, int till) {
            int product = 1;
            for (int i = from; i < till; i++) {
                product *= sizes[i];
            }
            return product;
        }

        void putPairs(Code one, Code other) {
            for (int a = 0; a < one.words; a++) {
                if (one.holds(a)) {
                    putBehind(a * other.words, other, 0, other.words);
                }
            }
        }

        /** Words start, .. of the other code, as many as given, stand from base on here. */
        private void putBehind(int base, Code other, int start, int many) {
            for (int t = 0; t < many; t++) {
                if (other.holds(start + t)) {
                    put(base + t);
                }
            }
        }

        void putJoined(Code one, Code other) {
            int size = other.sizes[0];
            int tails = other.wordsOf(1, other.places);
            int last = 0;
            for (int a = 0; a < one.words; a++) {
                if (one.holds(a)) {
                    putBehind(a * tails, other, last * tails, tails);
                }
                last = last + 1 < size ? last + 1 : 0;
            }
        }

        void putLonger(Code other, int size) {
            for (int a = 0; a < other.words; a++) {
                if (other.holds(a)) {
                    for (int d = 0; d < size; d++) {
                        put(a * size + d);
                    }
                }
            }
        }

        void putShorter(Code other, int i, int digit) {
            int size = other.sizes[i];
            int heads = other.wordsOf(0, i);
            int tails = other.wordsOf(i + 1, other.places);
            for (int head = 0; head < heads; head++) {
                putBehind(head * tails, other, (head * size + digit) * tails, tails);
            }
        }

        void putShifted(Code other, int i, int k) {
            int size = other.sizes[i];
            int heads = other.wordsOf(0, i);
            int tails = other.wordsOf(i + 1, other.places);
            if (size < LEAST_SIZE) {
                return;
            }
            for (int head = 0; head < heads; head++) {
                for (int d = 0; d < size; d++) {
                    int turned = (d + k) % size;
                    int base = (head * size + turned) * tails;
                    putBehind(base, other, (head * size + d) * tails, tails);
                }
            }
        }

        void putSwapped(Code other, Ground ground, int i, int j) {
            for (int w = 0; w < other.words; w++) {
                if (other.holds(w)) {
                    int number = 0;
                    for (int k = 0; k < other.places; k++) {
                        int from = swapped(k, i, j);
                        number = number * other.sizes[from] + ground.digitAt(w, from);
                    }
                    put(number);
                }
            }
        }

        void putMixed(Code one, Code other, int what) {
            for (int w = 0; w < words; w++) {
                boolean first = one.holds(w);
                boolean second = other.holds(w);
                boolean comes = what == 0 ? first || second : first && second == (what == 1);
                if (comes) {
                    put(w);
                }
            }
        }
    }

    /** The latest acts: which code each went to, and what was there. */
    private static final class History {
        private final Code[] past = new Code[MOST_ACTS];
        private final int[] slots = new int[MOST_ACTS];
        private int next;
        private int kept;

        History() {
            for (int a = 0; a < past.length; a++) {
                past[a] = new Code();
            }
        }

        void forget() {
            kept = 0;
        }

        void keep(int slot, Code was) {
            past[next].copy(was);
            slots[next] = slot;
            next = next + 1 < MOST_ACTS ? next + 1 : 0;
            kept = Math.min(kept + 1, MOST_ACTS);
        }

        void giveBack(Code[] codes) {
            if (kept < 1) {
                return;
            }
            next = next > 0 ? next - 1 : MOST_ACTS - 1;
            kept--;
            codes[slots[next]].copy(past[next]);
        }
    }

    /** How far words lie apart in the space of one code at a time, and how often each is covered. */
    private static final class Ground {
        /** The lower bit of each pair: words have two bits for a digit. */
        private static final int LOWER_BITS = 0x5555;

        private int words;
        private int oddPlaces;
        private int heavyPlaces;
        private final int[] packed = new int[MOST_WORDS];
        private final int[] times = new int[MOST_WORDS];
        private final int[] gains = new int[MOST_WORDS];

        void lay(Code code) {
            words = 1;
            oddPlaces = 0;
            heavyPlaces = 0;
            packed[0] = 0;
            for (int i = 0; i < code.places; i++) {
                layPlace(i, code.sizes[i], code.weights[i]);
            }
        }

        private void layPlace(int i, int size, int weight) {
            int bit = 2 * i;
            if ((weight & 1) != 0) {
                oddPlaces |= 1 << bit;
            }
            if ((weight & 2) != 0) {
                heavyPlaces |= 1 << bit;
            }
            // From the last word down, so that none is written over before it is read.
            for (int w = words - 1; w >= 0; w--) {
                int head = packed[w];
                for (int d = 0; d < size; d++) {
                    packed[w * size + d] = head | d << bit;
                }
            }
            words *= size;
        }

        int digitAt(int w, int i) {
            return packed[w] >> 2 * i & 3;
        }

        int distance(int w, int v) {
            int bits = packed[w] ^ packed[v];
            int unlike = (bits | bits >> 1) & LOWER_BITS;
            return Integer.bitCount(unlike & oddPlaces) + 2 * Integer.bitCount(unlike & heavyPlaces);
        }

        int ballSize(int r) {
            int size = 0;
            for (int w = 0; w < words; w++) {
                if (distance(0, w) <= r) {
                    size++;
                }
            }
            return size;
        }

        int inBall(int w, int r, int k) {
            int before = k;
            for (int v = 0; v < words; v++) {
                if (distance(w, v) <= r) {
                    if (before == 0) {
                        return v;
                    }
                    before--;
                }
            }
            return NOT_SO_MANY;
        }

        int fewestByCount(int r) {
            int size = ballSize(r);
            return size < 1 ? words : (words + size - 1) / size;
        }

        void countTimes(Code code, int r) {
            Arrays.fill(times, 0);
            for (int w = 0; w < words; w++) {
                if (code.holds(w)) {
                    addTimes(w, r, 1);
                }
            }
        }

        private void addTimes(int codeword, int r, int more) {
            for (int w = 0; w < words; w++) {
                if (distance(codeword, w) <= r) {
                    times[w] += more;
                }
            }
        }

        int withTimes(int k) {
            int many = 0;
            for (int w = 0; w < words; w++) {
                if (times[w] == k) {
                    many++;
                }
            }
            return many;
        }

        int timesTooMany() {
            int all = 0;
            for (int w = 0; w < words; w++) {
                if (times[w] > 0) {
                    all += times[w] - 1;
                }
            }
            return all;
        }

        int holeAt(int k) {
            int before = k;
            for (int w = 0; w < words; w++) {
                if (times[w] == 0) {
                    if (before == 0) {
                        return w;
                    }
                    before--;
                }
            }
            return NOT_SO_MANY;
        }

        int idleAt(Code code, int r, int k) {
            int before = k;
            for (int w = 0; w < words; w++) {
                if (code.holds(w) && onlyBy(w, r) == 0) {
                    if (before == 0) {
                        return w;
                    }
                    before--;
                }
            }
            return NOT_SO_MANY;
        }

        /** How many words a codeword covers that no other one does. */
        int onlyBy(int codeword, int r) {
            int many = 0;
            for (int w = 0; w < words; w++) {
                if (times[w] == 1 && distance(codeword, w) <= r) {
                    many++;
                }
            }
            return many;
        }

        int pairsApart(Code code, int k) {
            int many = 0;
            for (int w = 0; w < words; w++) {
                if (code.holds(w)) {
                    for (int v = w + 1; v < words; v++) {
                        if (code.holds(v) && distance(w, v) == k) {
                            many++;
                        }
                    }
                }
            }
            return many;
        }

        int leastApart(Code code) {
            int least = Integer.MAX_VALUE;
            for (int w = 0; w < words; w++) {
                if (code.holds(w)) {
                    for (int v = w + 1; v < words; v++) {
                        if (code.holds(v)) {
                            least = Math.min(least, distance(w, v));
                        }
                    }
                }
            }
            return least;
        }

        int radius(Code code) {
            int greatest = 0;
            for (int w = 0; w < words; w++) {
                greatest = Math.max(greatest, distance(w, closest(code, w)));
            }
            return greatest;
        }

        /** The first codeword nearest to a word (0, where there is no codeword at all). */
        int closest(Code code, int w) {
            int best = 0;
            int least = Integer.MAX_VALUE;
            for (int v = 0; v < words; v++) {
                if (code.holds(v) && distance(w, v) < least) {
                    least = distance(w, v);
                    best = v;
                }
            }
            return best;
        }

        int farthest(Code code, int w) {
            int greatest = 0;
            for (int v = 0; v < words; v++) {
                if (code.holds(v)) {
                    greatest = Math.max(greatest, distance(w, v));
                }
            }
            return greatest;
        }

        int middle(Code code) {
            int best = 0;
            int least = Integer.MAX_VALUE;
            for (int w = 0; w < words; w++) {
                int greatest = farthest(code, w);
                if (greatest < least) {
                    least = greatest;
                    best = w;
                }
            }
            return best;
        }

        int codewordsAt(Code code, int w, int k) {
            int many = 0;
            for (int v = 0; v < words; v++) {
                if (code.holds(v) && distance(w, v) == k) {
                    many++;
                }
            }
            return many;
        }

        int codewordsWith(Code code, int i, int wanted) {
            int many = 0;
            for (int w = 0; w < words; w++) {
                if (code.holds(w) && digitAt(w, i) == wanted) {
                    many++;
                }
            }
            return many;
        }

        /** Codewords come, each the best, until there are no holes: how many. Times are counted. */
        int fill(Code code, int r) {
            Arrays.fill(gains, 0);
            for (int w = 0; w < words; w++) {
                if (times[w] == 0) {
                    addGains(w, r, 1);
                }
            }
            int came = 0;
            for (int turn = 0; turn < words; turn++) {
                int best = mostGain();
                if (gains[best] == 0) {
                    break;
                }
                code.put(best);
                fillHolesNear(best, r);
                came++;
            }
            return came;
        }

        /** Every word within r of a hole would cover it: the gain of each changes. */
        private void addGains(int hole, int r, int more) {
            for (int w = 0; w < words; w++) {
                if (distance(hole, w) <= r) {
                    gains[w] += more;
                }
            }
        }

        private int mostGain() {
            int best = 0;
            for (int w = 1; w < words; w++) {
                if (gains[w] > gains[best]) {
                    best = w;
                }
            }
            return best;
        }

        private void fillHolesNear(int codeword, int r) {
            for (int w = 0; w < words; w++) {
                if (times[w] == 0 && distance(codeword, w) <= r) {
                    times[w] = 1;
                    addGains(w, r, -1);
                }
            }
        }

        /** Idle codewords go, from the last one on: how many. Times are counted. */
        int weed(Code code, int r) {
            int went = 0;
            for (int w = words - 1; w >= 0; w--) {
                if (code.holds(w) && onlyBy(w, r) == 0) {
                    code.drop(w);
                    addTimes(w, r, -1);
                    went++;
                }
            }
            return went;
        }
    }

    /** The balls of a small space, each as two rows of 64 bits. */
    private static final class Balls {
        private int words;
        private int size;
        private final long[] low = new long[MOST_SEARCHED];
        private final long[] high = new long[MOST_SEARCHED];

        void lay(Ground ground, int r) {
            words = Math.min(ground.words, MOST_SEARCHED);
            size = ground.ballSize(r);
            for (int w = 0; w < words; w++) {
                layBall(ground, w, r);
            }
        }

        private void layBall(Ground ground, int w, int r) {
            long lower = 0;
            long higher = 0;
            for (int v = 0; v < words; v++) {
                if (ground.distance(w, v) <= r) {
                    lower |= lowBit(v);
                    higher |= highBit(v);
                }
            }
            low[w] = lower;
            high[w] = higher;
        }

        static long lowBit(int w) {
            return w < 64 ? 1L << w : 0L;
        }

        static long highBit(int w) {
            return w < 64 ? 0L : 1L << w - 64;
        }

        /** All words, as the low row. */
        long lowAll() {
            return words >= 64 ? -1L : (1L << words) - 1;
        }

        long highAll() {
            return words > 64 ? (1L << words - 64) - 1 : 0L;
        }

        static int countOf(long lower, long higher) {
            return Long.bitCount(lower) + Long.bitCount(higher);
        }

        /** The first word of two rows; 128, beyond all, if both are empty. */
        static int firstOf(long lower, long higher) {
            if (lower != 0) {
                return Long.bitCount((lower & -lower) - 1);
            }
            return 64 + Long.bitCount((higher & -higher) - 1);
        }
    }

    /** The fewest words by which all are covered, sought step by step. */
    private static final class Search {
        private final Balls balls = new Balls();
        private final int[] row = new int[MOST_TAKEN];
        private int allowed;
        private int found;
        private int steps;
        private boolean isGivenUp;

        void run(Ground ground, int r) {
            balls.lay(ground, r);
            found = 0;
            steps = 0;
            isGivenUp = false;
            for (int n = 1; n <= MOST_TAKEN; n++) {
                allowed = n;
                if (seek(0, balls.lowAll(), balls.highAll()) || isGivenUp) {
                    return;
                }
            }
            isGivenUp = true;
        }

        int told(int what) {
            if (what == 1) {
                return steps;
            }
            if (isGivenUp) {
                return NOT_SO_MANY;
            }
            if (what == 0) {
                return found;
            }
            int k = what - 2;
            return k >= 0 && k < found ? row[k] : NOT_SO_MANY;
        }

        /** The rows are of the words that aren't covered by those taken. */
        private boolean seek(int taken, long lower, long higher) {
            int open = Balls.countOf(lower, higher);
            if (open == 0) {
                found = taken;
                return true;
            }
            int left = allowed - taken;
            if (taken >= MOST_TAKEN || left <= 0 || left * balls.size < open) {
                return false;
            }
            int first = Balls.firstOf(lower, higher);
            if (first >= balls.words) {
                return false;
            }
            long restLow = balls.low[first];
            long restHigh = balls.high[first];
            for (int k = 0; k < balls.size; k++) {
                if (steps >= MOST_STEPS) {
                    isGivenUp = true;
                    return false;
                }
                int w = Balls.firstOf(restLow, restHigh);
                if (w >= balls.words) {
                    return false;
                }
                restLow &= ~Balls.lowBit(w);
                restHigh &= ~Balls.highBit(w);
                steps++;
                row[taken] = w;
                if (seek(taken + 1, lower & ~balls.low[w], higher & ~balls.high[w])) {
                    return true;
                }
                if (isGivenUp) {
                    return false;
                }
            }
            return false;
        }
    }

    /** Codewords exchanged for other words as long as that leaves fewer holes. */
    private static final class Exchange {
        private final Balls balls = new Balls();
        /** Words that no codeword covers, and those that just one does. */
        private long holesLow;
        private long holesHigh;
        private long onceLow;
        private long onceHigh;
        private int fewestHoles;
        private int bestGoing;
        private int bestComing;

        int run(Code code, Ground ground, int r) {
            balls.lay(ground, r);
            for (int made = 0; made < MOST_EXCHANGES; made++) {
                findBest(code);
                if (bestGoing == NONE) {
                    return made;
                }
                code.drop(bestGoing);
                code.put(bestComing);
            }
            return MOST_EXCHANGES;
        }

        private void findBest(Code code) {
            sortWords(code);
            bestGoing = NONE;
            bestComing = NONE;
            fewestHoles = Balls.countOf(holesLow, holesHigh);
            for (int w = 0; w < balls.words; w++) {
                if (code.holds(w)) {
                    tryWithout(code, w);
                }
            }
        }

        private void sortWords(Code code) {
            long someLow = 0;
            long someHigh = 0;
            long moreLow = 0;
            long moreHigh = 0;
            for (int w = 0; w < balls.words; w++) {
                if (code.holds(w)) {
                    moreLow |= someLow & balls.low[w];
                    moreHigh |= someHigh & balls.high[w];
                    someLow |= balls.low[w];
                    someHigh |= balls.high[w];
                }
            }
            holesLow = balls.lowAll() & ~someLow;
            holesHigh = balls.highAll() & ~someHigh;
            onceLow = someLow & ~moreLow;
            onceHigh = someHigh & ~moreHigh;
        }

        private void tryWithout(Code code, int going) {
            long lower = holesLow | onceLow & balls.low[going];
            long higher = holesHigh | onceHigh & balls.high[going];
            for (int w = 0; w < balls.words; w++) {
                if (!code.holds(w)) {
                    int left = Balls.countOf(lower & ~balls.low[w], higher & ~balls.high[w]);
                    if (left < fewestHoles) {
                        fewestHoles = left;
                        bestGoing = going;
                        bestComing = w;
                    }
                }
            }
        }
    }

    /** The tape, and what the latest sound text told. */
    private static final class Reader {
        private static final int MOST_BYTES = 600;
        private static final int FEED_BYTES = 20;
        private static final int MOST_LINES = 4;
        private static final int MOST_LETTERS = 6;
        private static final int MOST_DIGITS = 8;

        private static final int END = 0;
        private static final int NAME = 1;
        private static final int RUN = 2;
        private static final int SIGN = 3;
        private static final int WRONG = 4;

        private static final int FORM = 1;
        private static final int VALUE = 2;
        private static final int AGAIN = 3;
        private static final int TOO_MANY = 4;

        private final int[] tape = new int[MOST_BYTES];
        private int filled;
        private int length;
        /** The token: its first byte, the one behind it, its kind. */
        private int at;
        private int behind;
        private int kind;
        private int fault;
        private int lines;
        private final Code[] drafts = new Code[MOST_LINES];
        private final int[] draftNames = new int[MOST_LINES];
        private final int[] names = new int[MOST_LINES];
        private int told;

        Reader() {
            for (int c = 0; c < drafts.length; c++) {
                drafts[c] = new Code();
            }
        }

        boolean hasRoom() {
            return filled + FEED_BYTES <= MOST_BYTES;
        }

        void append(int four) {
            if (filled + 4 > MOST_BYTES) {
                return;
            }
            for (int k = 0; k < 4; k++) {
                tape[filled + k] = four >>> 24 - 8 * k & 255;
            }
            filled += 4;
        }

        /** The drafts are the codes of the text, if it is sound. */
        boolean read(int n) {
            length = Math.max(0, Math.min(n, filled));
            behind = 0;
            fault = 0;
            lines = 0;
            for (int turn = 0; turn <= MOST_LINES; turn++) {
                if (!readLine()) {
                    return false;
                }
                if (kind == END) {
                    return true;
                }
            }
            return fail(FORM);
        }

        void handOut(Code[] codes) {
            told = lines;
            for (int c = 0; c < lines && c < MOST_LINES; c++) {
                codes[c].copy(drafts[c]);
                names[c] = draftNames[c];
            }
        }

        /** Five bits of a name for each letter, from 1 on: 0 is no letter. */
        int letterOf(int c, int k) {
            if (c < 0 || c >= told || c >= MOST_LINES || k < 0 || k >= MOST_LETTERS) {
                return NONE;
            }
            return (names[c] >> 5 * k & 31) - 1;
        }

        private boolean fail(int number) {
            fault = number;
            return false;
        }

        /** Ends with the token behind the line, a ; or the end. */
        private boolean readLine() {
            advance();
            if (!isKeyword("code")) {
                return fail(FORM);
            }
            if (lines >= MOST_LINES) {
                return fail(TOO_MANY);
            }
            Code draft = drafts[lines];
            draft.clear();
            if (!readName() || !readOn() || !readSizes(draft)) {
                return false;
            }
            if (isKeyword("weigh") && !readWeights(draft)) {
                return false;
            }
            if (!isSign(':')) {
                return fail(FORM);
            }
            lines++;
            return readCodewords(draft);
        }

        private boolean readName() {
            advance();
            if (kind != NAME || isKeyword("code") || isKeyword("on") || isKeyword("weigh")) {
                return fail(FORM);
            }
            int name = 0;
            for (int k = 0; k < behind - at; k++) {
                name |= tape[at + k] - 'a' + 1 << 5 * k;
            }
            for (int c = 0; c < lines; c++) {
                if (draftNames[c] == name) {
                    return fail(AGAIN);
                }
            }
            draftNames[lines] = name;
            return true;
        }

        private boolean readOn() {
            advance();
            return isKeyword("on") || fail(FORM);
        }

        /** Ends with the token behind the sizes. */
        private boolean readSizes(Code draft) {
            advance();
            if (kind != RUN) {
                return fail(FORM);
            }
            for (int i = 0; i <= MOST_PLACES && kind == RUN; i++) {
                int size = singleDigit();
                if (!isSize(size)) {
                    return fail(VALUE);
                }
                if (!draft.addPlace(size, LEAST_WEIGHT)) {
                    return fail(TOO_MANY);
                }
                advance();
            }
            return true;
        }

        /** Ends with the token behind as many weights as there are places. */
        private boolean readWeights(Code draft) {
            for (int i = 0; i < draft.places; i++) {
                advance();
                if (kind != RUN) {
                    return fail(FORM);
                }
                int weight = singleDigit();
                if (!isWeight(weight)) {
                    return fail(VALUE);
                }
                draft.weights[i] = weight;
            }
            advance();
            return true;
        }

        /** Ends with a ; or the end. */
        private boolean readCodewords(Code draft) {
            for (int k = 0; k < MOST_BYTES; k++) {
                advance();
                if (kind != RUN) {
                    return fail(FORM);
                }
                int number = numberIn(draft);
                if (number == NONE) {
                    return fail(VALUE);
                }
                if (draft.holds(number)) {
                    return fail(AGAIN);
                }
                draft.put(number);
                advance();
                if (kind == END || isSign(';')) {
                    return true;
                }
                if (!isSign(',')) {
                    return fail(FORM);
                }
            }
            return fail(FORM);
        }

        private int numberIn(Code draft) {
            if (behind - at != draft.places) {
                return NONE;
            }
            int number = 0;
            for (int i = 0; i < draft.places; i++) {
                int value = tape[at + i] - '0';
                if (value >= draft.sizes[i]) {
                    return NONE;
                }
                number = number * draft.sizes[i] + value;
            }
            return number;
        }

        private int singleDigit() {
            return behind - at == 1 ? tape[at] - '0' : NONE;
        }

        private boolean isSign(int sign) {
            return kind == SIGN && tape[at] == sign;
        }

        private boolean isKeyword(String keyword) {
            if (kind != NAME || behind - at != keyword.length()) {
                return false;
            }
            for (int k = 0; k < keyword.length(); k++) {
                if (tape[at + k] != keyword.charAt(k)) {
                    return false;
                }
            }
            return true;
        }

        private void advance() {
            at = behind;
            while (at < length && tape[at] == ' ') {
                at++;
            }
            if (at >= length) {
                kind = END;
                behind = at;
            } else if (isLetter(tape[at])) {
                behind = endOfLetters();
                kind = behind - at <= MOST_LETTERS ? NAME : WRONG;
            } else if (isNumeral(tape[at])) {
                behind = endOfNumerals();
                kind = behind - at <= MOST_DIGITS ? RUN : WRONG;
            } else {
                behind = at + 1;
                kind = isMark(tape[at]) ? SIGN : WRONG;
            }
        }

        private int endOfLetters() {
            int end = at;
            while (end < length && isLetter(tape[end])) {
                end++;
            }
            return end;
        }

        private int endOfNumerals() {
            int end = at;
            while (end < length && isNumeral(tape[end])) {
                end++;
            }
            return end;
        }

        private static boolean isLetter(int b) {
            return b >= 'a' && b <= 'z';
        }

        private static boolean isNumeral(int b) {
            return b >= '0' && b <= '9';
        }

        private static boolean isMark(int b) {
            return b == ';' || b == ',' || b == ':';
        }
    }
}
