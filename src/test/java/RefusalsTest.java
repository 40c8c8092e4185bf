import java.util.ArrayList;
import java.util.Arrays;
import java.util.List;
import java.util.NoSuchElementException;

/**
 * Terms III, TROUBLE: each call with each flaw that an argument of it may have, and all flaws together: by which number
 * it is refused, and that nothing else changes.
 */
public final class RefusalsTest {
    private static final Check check = new Check();

    /** Codes of each kind that a call may refuse; code 7 and 5 are none. */
    private static final int PLAIN = 0, ONE_PLACE = 1, OTHER = 2, BIG = 3, EMPTY = 4, SAME = 6;
    private static final int NO_CODE = 7;

    private interface Call {
        long by(SlipCovers x, int[] a);
    }

    /** A value that an argument may have, and by which number it is refused (0: it isn't). */
    private record Value(int is, int trouble) { }

    private static Value[] values(int good, int trouble, int... bad) {
        Value[] v = new Value[bad.length + 1];
        v[0] = new Value(good, 0);
        for (int k = 0; k < bad.length; k++) v[k + 1] = new Value(bad[k], trouble);
        return v;
    }

    private static Value[] with(Value[] some, int is, int trouble) {
        Value[] v = Arrays.copyOf(some, some.length + 1);
        v[some.length] = new Value(is, trouble);
        return v;
    }

    private static Value[] code(int good) {
        return values(good, 1, -1, NO_CODE, 8, Integer.MIN_VALUE, Integer.MAX_VALUE);
    }

    private static Value[] slot() {
        return values(5, 1, -1, 8, Integer.MIN_VALUE, Integer.MAX_VALUE);
    }

    private static Value[] slips() {
        return values(1, 2, -1, 25, Integer.MIN_VALUE, Integer.MAX_VALUE);
    }

    /** k that is refused below 0. */
    private static Value[] from0(int trouble) {
        return values(0, trouble, -1, Integer.MIN_VALUE);
    }

    private static Value[] upTo(int most, int trouble) {
        return values(most, trouble, -1, most + 1, Integer.MIN_VALUE, Integer.MAX_VALUE);
    }

    /** A word of the plain code (0 and 11 of 12 are its codewords): too great for all codes but the big one. */
    private static Value[] word(int good) {
        return values(good, 1, -1, 256, Integer.MIN_VALUE, Integer.MAX_VALUE);
    }

    private static Value[] place() {
        return values(0, 1, -1, 8, Integer.MIN_VALUE, Integer.MAX_VALUE);
    }

    private static Value[] digit() {
        return values(0, 2, -1, 4, Integer.MIN_VALUE, Integer.MAX_VALUE);
    }

    public static void main(String[] args) {
        words();
        covered();
        acts();
        actsOfTwo();
        texts();
        untold();
        beyondTheSpace();
        check.end();
    }

    // ---- the calls, the order of their numbers, and what their arguments may be

    private static void words() {
        each("about", "1", (x, a) -> x.about(a[0], a[1]), code(PLAIN), upTo(5, 1));
        each("place", "1", (x, a) -> x.place(a[0], a[1], a[2]), code(PLAIN), place(), upTo(1, 1));
        each("word", "1", (x, a) -> x.word(a[0], a[1]), code(PLAIN), from0(1));
        each("has", "1", (x, a) -> x.has(a[0], a[1]), code(PLAIN), word(1));
        each("digit", "1", (x, a) -> x.digit(a[0], a[1], a[2]), code(PLAIN), word(1), place());
        each("far", "1", (x, a) -> x.far(a[0], a[1], a[2]), code(PLAIN), word(1), word(2));
        each("ball", "12", (x, a) -> x.ball(a[0], a[1]), code(PLAIN), slips());
        each("ballAt", "12", (x, a) -> x.ballAt(a[0], a[1], a[2], a[3]), code(PLAIN), word(1), slips(), from0(1));
        each("same", "1", (x, a) -> x.same(a[0], a[1]), code(PLAIN), code(BIG));
    }

    private static void covered() {
        each("covered", "12", (x, a) -> x.covered(a[0], a[1]), code(PLAIN), slips());
        each("times", "12", (x, a) -> x.times(a[0], a[1], a[2]), code(PLAIN), word(1), slips());
        each("table", "12", (x, a) -> x.table(a[0], a[1], a[2]), code(PLAIN), slips(), from0(2));
        each("hole", "12", (x, a) -> x.hole(a[0], a[1], a[2]), code(PLAIN), slips(), from0(1));
        each("idle", "12", (x, a) -> x.idle(a[0], a[1], a[2]), code(PLAIN), slips(), from0(1));
        each("excess", "12", (x, a) -> x.excess(a[0], a[1]), code(PLAIN), slips());
        each("bound", "12", (x, a) -> x.bound(a[0], a[1]), code(PLAIN), slips());
        each("pairs", "12", (x, a) -> x.pairs(a[0], a[1]), code(PLAIN), from0(2));
        each("centre", "15", (x, a) -> x.centre(a[0], a[1]), with(code(PLAIN), EMPTY, 5), upTo(1, 1));
        each("nearest", "15", (x, a) -> x.nearest(a[0], a[1]), with(code(PLAIN), EMPTY, 5), word(1));
        each("ring", "12", (x, a) -> x.ring(a[0], a[1], a[2]), code(PLAIN), word(1), from0(2));
        each("column", "12", (x, a) -> x.column(a[0], a[1], a[2]), code(PLAIN), place(), digit());
        each("worth", "125", (x, a) -> x.worth(a[0], a[1], a[2]), code(PLAIN), with(word(0), 1, 5), slips());
        each("fewest", "125", (x, a) -> x.fewest(a[0], a[1], a[2]), with(code(PLAIN), BIG, 5), slips(), upTo(9, 1));
    }

    private static void acts() {
        each("set true", "15", (x, a) -> x.set(a[0], a[1], true), code(PLAIN), with(word(1), 0, 5));
        each("set false", "15", (x, a) -> x.set(a[0], a[1], false), code(PLAIN), with(word(0), 1, 5));
        each("greedy", "12", (x, a) -> x.greedy(a[0], a[1]), code(PLAIN), slips());
        each("thin", "12", (x, a) -> x.thin(a[0], a[1]), code(PLAIN), slips());
        each("better", "125", (x, a) -> x.better(a[0], a[1]), with(code(PLAIN), BIG, 5), slips());
        each("longer", "123", (x, a) -> x.longer(a[0], a[1], a[2], a[3]), slot(), with(code(PLAIN), BIG, 3),
            values(2, 2, 1, 5, Integer.MIN_VALUE, Integer.MAX_VALUE), values(1, 2, 0, 4, Integer.MIN_VALUE, Integer.MAX_VALUE));
        each("shorter", "125", (x, a) -> x.shorter(a[0], a[1], a[2], a[3]), slot(), with(code(PLAIN), ONE_PLACE, 5), place(), digit());
        each("swap", "1", (x, a) -> x.swap(a[0], a[1], a[2], a[3]) ? 1 : -1, slot(), code(PLAIN), place(), place());
        each("shift", "12", (x, a) -> x.shift(a[0], a[1], a[2], a[3]) ? 1 : -1, slot(), code(PLAIN), place(), upTo(3, 2));
        each("holes", "12", (x, a) -> x.holes(a[0], a[1], a[2]), slot(), code(PLAIN), slips());
    }

    private static void actsOfTwo() {
        each("sum", "13", (x, a) -> x.sum(a[0], a[1], a[2]), slot(), with(code(PLAIN), BIG, 3), code(OTHER));
        each("sum", "13", (x, a) -> x.sum(a[0], a[1], a[2]), slot(), code(OTHER), with(code(PLAIN), BIG, 3));
        // The plain code ends with a place as it begins; the other one with neither.
        each("join", "153", (x, a) -> x.join(a[0], a[1], a[2]), slot(), with(code(PLAIN), OTHER, 5), code(PLAIN));
        each("join", "153", (x, a) -> x.join(a[0], a[1], a[2]), slot(), code(PLAIN), with(code(PLAIN), OTHER, 5));
        // The big code has no room for the plain one, and unlike places, too: 5 is told first. It has none for itself,
        // but for one place that is as its last.
        each("join", "153", (x, a) -> x.join(a[0], a[1], a[2]), slot(), with(code(PLAIN), BIG, 5), code(PLAIN));
        each("join", "153", (x, a) -> x.join(a[0], a[1], a[2]), slot(), code(BIG), with(with(code(ONE_PLACE), BIG, 3), PLAIN, 5));
        each("mix", "15", (x, a) -> x.mix(a[0], a[1], a[2], a[3]), slot(), code(PLAIN), with(code(SAME), OTHER, 5), upTo(2, 1));
        each("mix", "15", (x, a) -> x.mix(a[0], a[1], a[2], a[3]), slot(), with(code(PLAIN), BIG, 5), code(SAME), upTo(2, 1));
    }

    // ---- each choice of values

    /** Codes of each kind, a few acts that can be undone, a fault told with its place, and a tape with bytes. */
    private static SlipCovers made() {
        SlipCovers x = Feeding.of("code pl on 2 3 2: 000, 121; code one on 4 weigh 2: 3; code other on 3 4 weigh 1 3: 00, 23;"
            + " code big on 4 4 4 4 weigh 2 1 1 2: 0000, 3333");
        x.mix(EMPTY, PLAIN, PLAIN, 2);
        x.shift(SAME, PLAIN, 1, 1);
        x.set(OTHER, 1, true);
        Feeding.text(x, "code a on 9");
        x.feed(1, 2, 3, 4, 5);
        return x;
    }

    private static String told(SlipCovers x) {
        StringBuilder s = new StringBuilder();
        s.append("fault ").append(x.fault()).append(" bytes ").append(x.bytes());
        for (int c = 0; c < 8; c++) {
            int places = x.about(c, 0), many = x.about(c, 2);
            s.append("; ").append(places).append(' ').append(many).append(':');
            for (int i = 0; i < places; i++) s.append(x.place(c, i, 0)).append(x.place(c, i, 1)).append(' ');
            for (int k = 0; k < Math.min(many, 12); k++) s.append(x.word(c, k)).append(' ');
        }
        for (int c = 0; c < 5; c++) s.append(letterOrNone(x, c)).append(' ');
        return s.toString();
    }

    private static int letterOrNone(SlipCovers x, int c) {
        try {
            return x.letter(c, 0);
        } catch (NoSuchElementException e) {
            return -1;
        }
    }

    private static String undone(SlipCovers x) {
        StringBuilder s = new StringBuilder();
        for (int k = 0; k < 5; k++) {
            s.append(x.undo());
            for (int c = 0; c < 8; c++) s.append(' ').append(x.about(c, 2));
            s.append("; ");
        }
        return s.toString();
    }

    private static void each(String name, String order, Call call, Value[]... arguments) {
        SlipCovers fresh = made();
        String before = told(fresh);
        String after = undone(fresh);
        for (int[] choice : choices(arguments)) {
            int[] a = new int[choice.length];
            int trouble = 0;
            for (int k = 0; k < a.length; k++) {
                Value v = arguments[k][choice[k]];
                a[k] = v.is();
                if (v.trouble() != 0 && (trouble == 0 || order.indexOf('0' + v.trouble()) < order.indexOf('0' + trouble))) {
                    trouble = v.trouble();
                }
            }
            one(name + " " + Arrays.toString(a), call, a, trouble, before, after);
        }
    }

    private static void one(String what, Call call, int[] a, int trouble, String before, String after) {
        SlipCovers x = made();
        long got = call.by(x, a);
        check.of("Terms III: TROUBLE: " + what.split(" ")[0]);
        if (trouble == 0) {
            check.due(what + " is not refused", got != -1, true);
        } else {
            check.due(what + " is refused", got, -1);
        }
        check.of("Terms III: Of several the one that the call tells first");
        check.due(what + " trouble", x.trouble(), trouble);
        check.of("Promise 5: NONE else");
        check.due(what + " where", x.where(), -1);
        if (trouble == 0) return;
        check.of("Terms III: What is refused changes nothing but trouble(), where()");
        check.due(what, told(x), before);
        check.due(what + " what can be undone", undone(x), after);
    }

    private static List<int[]> choices(Value[]... arguments) {
        List<int[]> all = new ArrayList<>();
        int[] choice = new int[arguments.length];
        while (true) {
            all.add(choice.clone());
            int k = 0;
            while (k < choice.length && ++choice[k] == arguments[k].length) choice[k++] = 0;
            if (k == choice.length) return all;
        }
    }

    // ---- text and undo

    private static void texts() {
        check.of("Terms III: What is refused changes nothing .. ; by 4 THE TAPE (empty then), fault()");
        SlipCovers fresh = made();
        String before = told(fresh).substring(told(fresh).indexOf(';'));
        String after = undone(fresh);
        String[] faulty = {"code", "code pl on 5", "code pl on 2: 0, 0", "code a on 4 4 4 4 4", "code z on 2: 0; code y on 3: 3"};
        int[] faults = {1, 2, 3, 4, 2};
        int[] wheres = {4, 11, 17, 18, 29};
        for (int k = 0; k < faulty.length; k++) {
            SlipCovers x = made();
            x.text(x.bytes());
            check.faulty(x, faulty[k], faults[k], wheres[k]);
            check.due("empty", x.bytes(), 0);
            String now = told(x);
            check.due(faulty[k], now.substring(now.indexOf(';')), before);
            check.due(faulty[k] + " what can be undone", undone(x), after);
        }
        check.of("Terms III: What is refused changes nothing (a text by 2)");
        for (int n : new int[] {-1, 21, 601, Integer.MIN_VALUE, Integer.MAX_VALUE}) {
            SlipCovers x = made();
            String was = told(x);
            check.refused(x, "text " + n, x.text(n), 2);
            check.due("text " + n, told(x), was);
            check.due("text " + n + " what can be undone", undone(x), after);
        }
        check.of("Terms III: What is refused changes nothing (undo by 5)");
        SlipCovers x = made();
        for (int k = 2; k >= 0; k--) check.fine(x, "undo", x.undo(), k);
        String was = told(x);
        check.refused(x, "undo", x.undo(), 5);
        check.due("undo", told(x), was);
        x.set(PLAIN, 1, true);
        check.fine(x, "undo", x.undo(), 0);
    }

    /** Each call on a new object, where there is no code: 1, whatever the other arguments are. */
    private static void untold() {
        check.of("Terms III: 1 there is none such (no CODE)");
        SlipCovers x = new SlipCovers();
        for (int c = 0; c < 8; c++) {
            check.refused(x, "about", x.about(c, 9), 1);
            check.refused(x, "ball", x.ball(c, 99), 1);
            check.refused(x, "worth", x.worth(c, 0, 99), 1);
            check.refused(x, "fewest", x.fewest(c, 99, 0), 1);
            check.refused(x, "set", x.set(c, 0, false), 1);
            check.refused(x, "better", x.better(c, 99), 1);
            check.refused(x, "sum", x.sum(c, c, c), 1);
            check.refused(x, "join", x.join(c, c, c), 1);
            check.refused(x, "longer", x.longer(c, c, 9, 9), 1);
            check.refused(x, "shorter", x.shorter(c, c, 0, 9), 1);
            check.refused(x, "swap", x.swap(c, c, 0, 0), 1);
            check.refused(x, "shift", x.shift(c, c, 0, 9), 1);
            check.refused(x, "mix", x.mix(c, c, c, 0), 1);
            check.refused(x, "holes", x.holes(c, c, 99), 1);
            check.refused(x, "same", x.same(c, c), 1);
        }
        check.refused(x, "no act", x.undo(), 5);
    }

    /** Words, places and digits of one code that another has not. */
    private static void beyondTheSpace() {
        check.of("Terms III: 1 there is none such (no WORD, place of that CODE)");
        SlipCovers x = made();
        int[] codes = {PLAIN, ONE_PLACE, OTHER, BIG, EMPTY, SAME};
        int[] words = {12, 4, 12, 256, 12, 12};
        int[] places = {3, 1, 2, 4, 3, 3};
        for (int k = 0; k < codes.length; k++) {
            int c = codes[k], last = words[k] - 1, end = places[k] - 1;
            check.fine(x, "the last word", x.far(c, last, last), 0);
            check.refused(x, "the word behind it", x.has(c, last + 1), 1);
            check.refused(x, "the word behind it", x.far(c, 0, last + 1), 1);
            check.refused(x, "the word behind it", x.digit(c, last + 1, 0), 1);
            check.refused(x, "the word behind it", x.times(c, last + 1, 0), 1);
            check.refused(x, "the word behind it", x.ballAt(c, last + 1, 0, 0), 1);
            check.refused(x, "the word behind it", x.nearest(c, last + 1), 1);
            check.refused(x, "the word behind it", x.ring(c, last + 1, 0), 1);
            check.refused(x, "the word behind it", x.worth(c, last + 1, 0), 1);
            check.refused(x, "the word behind it", x.set(c, last + 1, true), 1);
            check.fine(x, "the last place", x.digit(c, 0, end), 0);
            check.refused(x, "the place behind it", x.digit(c, 0, end + 1), 1);
            check.refused(x, "the place behind it", x.place(c, end + 1, 0), 1);
            check.refused(x, "the place behind it", x.column(c, end + 1, 0), 1);
            check.refused(x, "the place behind it", x.shorter(5, c, end + 1, 0), 1);
            check.refused(x, "the place behind it", x.swap(5, c, 0, end + 1), 1);
            check.refused(x, "the place behind it", x.swap(5, c, end + 1, 0), 1);
            check.refused(x, "the place behind it", x.shift(5, c, end + 1, 0), 1);
        }
    }
}
