import java.util.NoSuchElementException;
import java.util.Random;
import java.util.function.LongSupplier;

/** Runs of calls drawn by a fixed seed; each answer is held against the Model's. */
public final class RandomRunsTest {
    private static int wrong = 0;
    private static int calls = 0;
    private static final long THROWN = Long.MIN_VALUE;

    private final SlipCovers x = new SlipCovers();
    private final Model m = new Model();
    private final Random random;
    private final StringBuilder log = new StringBuilder();
    private boolean failed = false;

    private RandomRunsTest(long seed) {
        random = new Random(seed);
    }

    public static void main(String[] args) {
        int runs = args.length > 0 ? Integer.parseInt(args[0]) : 400;
        int first = args.length > 1 ? Integer.parseInt(args[1]) : 0;
        for (int seed = first; seed < first + runs && wrong < 5; seed++) new RandomRunsTest(seed).run();
        System.out.println(calls + " calls, " + wrong + " runs wrong");
        if (wrong != 0) System.exit(1);
    }

    private static long of(LongSupplier s) {
        try {
            return s.getAsLong();
        } catch (NoSuchElementException e) {
            return THROWN;
        }
    }

    private void due(String call, LongSupplier got, LongSupplier want) {
        if (failed) return;
        calls++;
        long g;
        try {
            g = of(got);
        } catch (RuntimeException e) {
            g = THROWN + 1;
        }
        long w = of(want);
        log.append(call).append(" -> ").append(g).append('\n');
        boolean state = x.trouble() == m.trouble() && x.where() == m.where()
            && x.fault() == m.fault() && x.bytes() == m.bytes();
        if (g != w || !state) {
            failed = true;
            wrong++;
            System.out.println(log + "due is " + w + " trouble " + m.trouble() + " where " + m.where() + " fault " + m.fault()
                + " (is " + x.trouble() + " " + x.where() + " " + x.fault() + ")\n");
        }
    }

    private void run() {
        tellText(random.nextInt(10) == 0);
        int n = 60 + random.nextInt(200);
        for (int k = 0; k < n && !failed; k++) {
            int kind = random.nextInt(100);
            if (kind < 3) tellText(random.nextInt(3) != 0);
            else if (kind < 4) due("text", () -> x.text(-1), () -> m.text(-1));
            else if (kind < 40) act();
            else ask();
        }
        compareAll();
    }

    private void compareAll() {
        for (int c = 0; c < 8; c++) {
            final int k = c;
            due("about " + c, () -> x.about(k, 2), () -> m.about(k, 2));
            if (m.codes[c] == null) continue;
            for (int w = 0; w < m.codes[c].words(); w++) {
                final int v = w;
                due("has " + c + " " + w, () -> x.has(k, v), () -> m.has(k, v));
            }
        }
    }

    // ---- arguments
    private int pick(int from, int till) {
        return from + random.nextInt(till - from + 1);
    }

    private boolean odd() {
        return random.nextInt(40) == 0;
    }

    private int wild() {
        int[] some = {-1, -2, 8, 9, 25, 256, 257, Integer.MAX_VALUE, Integer.MIN_VALUE, 81, 600};
        return some[random.nextInt(some.length)];
    }

    private int code() {
        if (odd()) return wild();
        for (int k = 0; k < 6; k++) {
            int c = random.nextInt(8);
            if (m.codes[c] != null) return c;
        }
        return random.nextInt(8);
    }

    private int slot() {
        return odd() ? wild() : random.nextInt(8);
    }

    private int wordOf(int c) {
        if (odd()) return wild();
        if (!m.code(c)) return random.nextInt(10);
        if (!m.codes[c].set.isEmpty() && random.nextInt(3) == 0) {
            return (Integer) m.codes[c].set.toArray()[random.nextInt(m.codes[c].set.size())];
        }
        return random.nextInt(m.codes[c].words() + (odd() ? 1 : 0));
    }

    private int placeOf(int c) {
        if (odd()) return wild();
        return m.code(c) ? random.nextInt(m.codes[c].sizes.size() + (odd() ? 1 : 0)) : random.nextInt(3);
    }

    private int slips() {
        if (odd()) return pick(-1, 0) == 0 ? 25 : -1;
        return random.nextInt(8) == 0 ? random.nextInt(25) : random.nextInt(5);
    }

    private int some(int till) {
        return odd() ? wild() : random.nextInt(till);
    }

    private void act() {
        int c = code(), d = code(), to = slot(), r = slips(), w = wordOf(c), i = placeOf(c), j = placeOf(c), k = some(4);
        switch (random.nextInt(14)) {
            case 0: {
                boolean is = random.nextBoolean();
                due("set " + c + " " + w + " " + is, () -> x.set(c, w, is), () -> m.set(c, w, is));
                break;
            }
            case 1:
                due("greedy " + c + " " + r, () -> x.greedy(c, r), () -> m.greedy(c, r));
                break;
            case 2:
                due("thin " + c + " " + r, () -> x.thin(c, r), () -> m.thin(c, r));
                break;
            case 3:
                due("better " + c + " " + r, () -> x.better(c, r), () -> m.better(c, r));
                break;
            case 4:
                due("sum " + to + " " + c + " " + d, () -> x.sum(to, c, d), () -> m.sum(to, c, d));
                break;
            case 5:
                due("join " + to + " " + c + " " + d, () -> x.join(to, c, d), () -> m.join(to, c, d));
                break;
            case 6: {
                int size = odd() ? pick(0, 5) : pick(2, 4), weight = odd() ? pick(-1, 4) : pick(1, 3);
                due("longer " + to + " " + c + " " + size + " " + weight, () -> x.longer(to, c, size, weight), () -> m.longer(to, c, size, weight));
                break;
            }
            case 7:
                due("shorter " + to + " " + c + " " + i + " " + k, () -> x.shorter(to, c, i, k % 3), () -> m.shorter(to, c, i, k % 3));
                break;
            case 8:
                due("swap " + to + " " + c + " " + i + " " + j, () -> x.swap(to, c, i, j) ? 1 : 0, () -> m.swap(to, c, i, j) ? 1 : 0);
                break;
            case 9:
                due("shift " + to + " " + c + " " + i + " " + k, () -> x.shift(to, c, i, k) ? 1 : 0, () -> m.shift(to, c, i, k) ? 1 : 0);
                break;
            case 10:
            case 11: {
                int what = some(3);
                if (random.nextBoolean()) due("shift " + to + " " + c, () -> x.shift(to, c, i, k) ? 1 : 0, () -> m.shift(to, c, i, k) ? 1 : 0);
                int e = random.nextInt(3) == 0 ? d : to;
                due("mix " + to + " " + c + " " + e + " " + what, () -> x.mix(to, c, e, what), () -> m.mix(to, c, e, what));
                break;
            }
            case 12:
                due("holes " + to + " " + c + " " + r, () -> x.holes(to, c, r), () -> m.holes(to, c, r));
                break;
            default:
                for (int n = random.nextInt(random.nextInt(8) == 0 ? 13 : 3); n >= 0; n--) due("undo", () -> x.undo(), () -> m.undo());
        }
    }

    private void ask() {
        int c = code(), d = code(), r = slips(), w = wordOf(c), v = wordOf(c), i = placeOf(c), k = some(6), what = some(7);
        String all = " c " + c + " d " + d + " r " + r + " w " + w + " v " + v + " i " + i + " k " + k + " what " + what;
        int call = random.nextInt(24);
        switch (call) {
            case 0: due("about" + all, () -> x.about(c, what), () -> m.about(c, what)); break;
            case 1: due("place" + all, () -> x.place(c, i, k % 3), () -> m.place(c, i, k % 3)); break;
            case 2: due("word" + all, () -> x.word(c, k), () -> m.word(c, k)); break;
            case 3: due("has" + all, () -> x.has(c, w), () -> m.has(c, w)); break;
            case 4: due("digit" + all, () -> x.digit(c, w, i), () -> m.digit(c, w, i)); break;
            case 5: due("far" + all, () -> x.far(c, w, v), () -> m.far(c, w, v)); break;
            case 6: due("ball" + all, () -> x.ball(c, r), () -> m.ball(c, r)); break;
            case 7: due("ballAt" + all, () -> x.ballAt(c, w, r, k), () -> m.ballAt(c, w, r, k)); break;
            case 8: due("covered" + all, () -> x.covered(c, r), () -> m.covered(c, r)); break;
            case 9: due("times" + all, () -> x.times(c, w, r), () -> m.times(c, w, r)); break;
            case 10: due("table" + all, () -> x.table(c, r, k), () -> m.table(c, r, k)); break;
            case 11: due("hole" + all, () -> x.hole(c, r, k), () -> m.hole(c, r, k)); break;
            case 12: due("idle" + all, () -> x.idle(c, r, k), () -> m.idle(c, r, k)); break;
            case 13: due("excess" + all, () -> x.excess(c, r), () -> m.excess(c, r)); break;
            case 14: due("bound" + all, () -> x.bound(c, r), () -> m.bound(c, r)); break;
            case 15: due("pairs" + all, () -> x.pairs(c, k), () -> m.pairs(c, k)); break;
            case 16: due("centre" + all, () -> x.centre(c, k % 3), () -> m.centre(c, k % 3)); break;
            case 17: due("nearest" + all, () -> x.nearest(c, w), () -> m.nearest(c, w)); break;
            case 18: due("ring" + all, () -> x.ring(c, w, k), () -> m.ring(c, w, k)); break;
            case 19: due("column" + all, () -> x.column(c, i, k % 3), () -> m.column(c, i, k % 3)); break;
            case 20: due("worth" + all, () -> x.worth(c, w, r), () -> m.worth(c, w, r)); break;
            case 21: {
                int part = some(10);
                if (random.nextInt(4) == 0) due("fewest " + part + all, () -> x.fewest(c, r, part), () -> m.fewest(c, r, part));
                break;
            }
            case 22: due("same" + all, () -> x.same(c, d), () -> m.same(c, d)); break;
            default: due("letter" + all, () -> x.letter(c, k), () -> m.letter(c, k));
        }
    }

    // ---- texts
    private void tellText(boolean spoiled) {
        String text = drawText();
        if (spoiled) for (int n = pick(1, 3); n > 0; n--) text = spoil(text);
        if (text.length() > 600) text = text.substring(0, 600);
        int[] n = Feeding.numbers(text);
        for (int k = 0; k < n.length; k += 5) {
            final int q = k;
            due("feed", () -> x.feed(n[q], n[q + 1], n[q + 2], n[q + 3], n[q + 4]), () -> m.feed(n[q], n[q + 1], n[q + 2], n[q + 3], n[q + 4]));
        }
        int length = odd() ? pick(-1, m.bytes() + 1) : Math.min(text.length(), m.bytes());
        due("text [" + text + "] " + length, () -> x.text(length), () -> m.text(length));
        for (int c = 0; c < 5; c++) {
            final int q = c;
            due("letter " + c, () -> x.letter(q, 0), () -> m.letter(q, 0));
            due("letter " + c, () -> x.letter(q, 5), () -> m.letter(q, 5));
        }
    }

    private String blanks() {
        return "   ".substring(random.nextInt(4));
    }

    private String drawText() {
        StringBuilder s = new StringBuilder();
        int lines = random.nextInt(20) == 0 ? 5 : pick(1, 4);
        for (int l = 0; l < lines; l++) {
            if (l > 0) s.append(blanks()).append(';').append(blanks());
            drawLine(s);
        }
        return s.append(blanks()).toString();
    }

    private void drawLine(StringBuilder s) {
        s.append("code ");
        for (int n = random.nextInt(3) == 0 ? 6 : pick(1, 2); n > 0; n--) s.append((char) ('a' + random.nextInt(26)));
        s.append(" on").append(blanks());
        int[] sizes = new int[8];
        int places = 0, words = 1, most = random.nextInt(5) == 0 ? 256 : 81;
        for (int wanted = pick(1, 8); places < wanted; places++) {
            int size = pick(2, random.nextInt(3) == 0 ? 2 : 4);
            if (words * size > most) break;
            words *= size;
            sizes[places] = size;
            s.append(size).append(' ');
        }
        if (random.nextBoolean()) {
            s.append("weigh").append(blanks());
            for (int i = 0; i < places; i++) s.append(pick(1, 3)).append(' ');
        }
        s.append(blanks()).append(':');
        for (int n = pick(1, Math.min(words, random.nextInt(4) == 0 ? 12 : 4)), w = 0; n > 0; n--, w++) {
            s.append(w > 0 ? "," : "").append(blanks());
            int number = w * words / 12 % words;
            if (random.nextInt(3) == 0) number = random.nextInt(words);
            StringBuilder digits = new StringBuilder();
            for (int i = places - 1; i >= 0; i--) {
                digits.insert(0, number % sizes[i]);
                number /= sizes[i];
            }
            s.append(digits);
        }
    }

    private String spoil(String text) {
        if (text.isEmpty()) return "code";
        int at = random.nextInt(text.length());
        String[] bits = {" ", ";", ",", ":", "0", "1", "2", "4", "5", "code", "on", "weigh", "a", "2 ", " 3", "\u00e9", "\u0000", "A", "123456", "abcdef", "\u0080"};
        String bit = bits[random.nextInt(bits.length)];
        switch (random.nextInt(4)) {
            case 0: return text.substring(0, at);
            case 1: return text.substring(0, at) + bit + text.substring(at);
            case 2: return text.substring(0, at) + bit + text.substring(at + 1);
            default: return text.substring(0, at) + text.substring(at + 1);
        }
    }
}
