/** Terms I to III, but for THE TEXT: each sentence that names a bound, with what lies on it and just beyond. */
public final class TermsBoundsTest {
    private static final String EIGHT = "code a on 2 2 2 2 2 2 2 2 weigh 3 3 3 3 3 3 3 3: 00000000";
    private static final Check check = new Check();

    public static void main(String[] args) {
        calls512();
        onePlace();
        eightPlaces();
        sizes();
        weights();
        words256();
        all256();
        numbers();
        withoutCodewords();
        codes0to7();
        oneAtATime();
        far();
        slips();
        balls();
        times();
        holes();
        idle();
        radius();
        apart();
        bound();
        excess();
        centre();
        fewestFound();
        fewestByEight();
        fewestBySteps();
        fewestOf81();
        fewestAndCodewords();
        tenActs();
        textLeavesNone();
        oneThereWasIsGone();
        check.end();
    }

    // ---- What it is

    private static void calls512() {
        check.of("An object is used for at most 512 calls");
        SlipCovers x = new SlipCovers();
        x.feed(0x636f6465, 0x2061206f, 0x6e203220, 0x3220323a, 0x20303030);
        x.text(20);
        for (int k = 3; k <= 511; k++) x.shift(0, 0, k % 3, 1);
        // Of 509 shifts 170, 170 and 169 went to places 0, 1 and 2: the last alone has turned.
        check.due("the 512th call", x.word(0, 0), 1);
    }

    // ---- Terms I

    private static void onePlace() {
        check.of("Terms I: A SPACE has places, from 0 on, 1 ..");
        SlipCovers x = Feeding.of("code a on 3 weigh 2: 1");
        check.fine(x, "places", x.about(0, 0), 1);
        check.fine(x, "place 0", x.place(0, 0, 0), 3);
        check.refused(x, "place -1", x.place(0, -1, 0), 1);
        check.refused(x, "place 1", x.place(0, 1, 0), 1);
        check.fine(x, "words", x.about(0, 1), 3);
        check.fine(x, "greatest far", x.about(0, 3), 2);
        check.fine(x, "radius", x.about(0, 4), 2);
        check.fine(x, "ball", x.ball(0, 1), 1);
        check.fine(x, "ball", x.ball(0, 2), 3);
        check.due("swap", x.swap(1, 0, 0, 0), true);
        check.due("shift", x.shift(1, 0, 0, 2), true);
        check.codewords(x, "shift", 1, 0);
        check.refused(x, "shorter", x.shorter(1, 0, 0, 1), 5);
        check.fine(x, "longer", x.longer(1, 0, 2, 1), 2);
    }

    private static void eightPlaces() {
        check.of("Terms I: A SPACE has places .. to 8");
        SlipCovers x = Feeding.of(EIGHT + "; code b on 2 2 2 2 2 2 2 weigh 1 1 1 1 1 1 3: 0000000; code c on 2 weigh 2: 1");
        check.fine(x, "places", x.about(0, 0), 8);
        check.fine(x, "place 7", x.place(0, 7, 1), 3);
        check.refused(x, "place 8", x.place(0, 8, 1), 1);
        check.fine(x, "digit 7 of the first", x.digit(0, 1, 7), 1);
        check.refused(x, "digit 8", x.digit(0, 1, 8), 1);
        check.refused(x, "column 8", x.column(0, 8, 0), 1);
        check.fine(x, "an eighth by longer", x.longer(3, 1, 2, 1), 2);
        check.refused(x, "a ninth by longer", x.longer(4, 3, 2, 1), 3);
        check.fine(x, "an eighth by sum", x.sum(3, 1, 2), 1);
        check.fine(x, "its places", x.about(3, 0), 8);
        check.fine(x, "its last place", x.place(3, 7, 1), 2);
        check.refused(x, "a ninth by sum", x.sum(4, 0, 2), 3);
        // Places 2 with weight 3: seven and two joined are eight, eight and two are nine.
        check.fine(x, "two places", x.longer(5, 2, 2, 1), 2);
        check.due("that begin with 2 by 3", x.shorter(6, 0, 0, 0), 1);
        check.due("two of them", x.longer(6, 2, 2, 3), 2);
        check.due("turned round", x.swap(6, 6, 0, 1), true);
        check.fine(x, "eight by join", x.join(7, 1, 6), 1);
        check.fine(x, "its places", x.about(7, 0), 8);
        check.refused(x, "nine by join", x.join(7, 0, 6), 3);
    }

    private static void sizes() {
        check.of("Terms I: a SIZE (2 .. 4: its digits are 0 .. SIZE - 1)");
        SlipCovers x = Feeding.of("code a on 2 3 4: 123");
        for (int i = 0; i < 3; i++) {
            check.fine(x, "size", x.place(0, i, 0), 2 + i);
            check.fine(x, "the first word's digit", x.digit(0, 0, i), 0);
            check.fine(x, "the last word's digit", x.digit(0, 23, i), 1 + i);
            check.refused(x, "digit -1", x.column(0, i, -1), 2);
            check.fine(x, "digit 0", x.column(0, i, 0), 0);
            check.fine(x, "digit SIZE - 1", x.column(0, i, 1 + i), 1);
            check.refused(x, "digit SIZE", x.column(0, i, 2 + i), 2);
            check.refused(x, "digit SIZE", x.shorter(1, 0, i, 2 + i), 2);
            check.fine(x, "digit SIZE - 1", x.shorter(1, 0, i, 1 + i), 1);
        }
        check.refused(x, "size 1", x.longer(1, 0, 1, 1), 2);
        check.fine(x, "size 2", x.longer(1, 0, 2, 1), 2);
        check.fine(x, "size 4", x.longer(1, 0, 4, 1), 4);
        check.refused(x, "size 5", x.longer(1, 0, 5, 1), 2);
    }

    private static void weights() {
        check.of("Terms I: a WEIGHT (1 .. 3)");
        SlipCovers x = Feeding.of("code a on 2 2 2 weigh 1 2 3: 000");
        for (int i = 0; i < 3; i++) {
            check.fine(x, "weight", x.place(0, i, 1), 1 + i);
            check.fine(x, "how far", x.far(0, 0, 4 >> i), 1 + i);
        }
        check.refused(x, "weight 0", x.longer(1, 0, 2, 0), 2);
        check.fine(x, "weight 1", x.longer(1, 0, 2, 1), 2);
        check.fine(x, "weight 3", x.longer(1, 0, 2, 3), 2);
        check.refused(x, "weight 4", x.longer(1, 0, 2, 4), 2);
    }

    private static void words256() {
        check.of("Terms I: a SPACE has 256 WORDS at most");
        SlipCovers x = Feeding.of("code a on 4 4 4 4: 3333; code b on 4 4: 00; code c on 4 3: 00; code d on 4 4 4: 000");
        check.fine(x, "words", x.about(0, 1), 256);
        check.fine(x, "the last word", x.has(0, 255), 1);
        check.refused(x, "word 256", x.has(0, 256), 1);
        check.fine(x, "how far", x.far(0, 0, 255), 4);
        check.refused(x, "how far", x.far(0, 0, 256), 1);
        check.refused(x, "how far", x.far(0, 256, 0), 1);
        check.fine(x, "just 256 by sum", x.sum(4, 1, 1), 1);
        check.refused(x, "768 by sum", x.sum(4, 3, 2), 3);
        check.refused(x, "more by sum", x.sum(4, 0, 0), 3);
        check.fine(x, "just 256 by join", x.join(4, 3, 1), 1);
        check.fine(x, "its words", x.about(4, 1), 256);
        check.refused(x, "1024 by join", x.join(4, 3, 3), 3);
        check.fine(x, "just 256 by longer", x.longer(4, 3, 4, 1), 4);
        check.fine(x, "192 by longer", x.longer(4, 3, 3, 1), 3);
        check.refused(x, "384 by longer", x.longer(4, 4, 2, 1), 3);
        check.refused(x, "512 by longer", x.longer(4, 0, 2, 1), 3);
    }

    private static void all256() {
        check.of("Terms I: a SPACE of 256 WORDS, all of them CODEWORDS");
        SlipCovers x = Feeding.of("code a on 4 4 4 4: 3333");
        check.fine(x, "its hole", x.hole(0, 3, 80), 170);
        check.fine(x, "centre of the last", x.centre(0, 0), 255);
        check.fine(x, "worth of the last", x.worth(0, 255, 24), 256);
        check.fine(x, "all but it came", x.greedy(0, 0), 255);
        int[] about = {4, 256, 256, 4, 0, 1};
        for (int k = 0; k < 6; k++) check.fine(x, "about " + k, x.about(0, k), about[k]);
        check.fine(x, "the last", x.word(0, 255), 255);
        check.fine(x, "no more", x.word(0, 256), -2);
        check.fine(x, "ball", x.ballAt(0, 255, 24, 255), 255);
        check.fine(x, "no more", x.ballAt(0, 255, 24, 256), -2);
        check.fine(x, "covered", x.covered(0, 0), 256);
        check.fine(x, "times", x.times(0, 255, 24), 256);
        check.fine(x, "times", x.times(0, 255, 1), 13);
        check.fine(x, "table", x.table(0, 1, 13), 256);
        check.fine(x, "hole", x.hole(0, 0, 0), -2);
        check.fine(x, "none idle", x.idle(0, 0, 0), -2);
        check.fine(x, "all idle", x.idle(0, 1, 255), 255);
        check.fine(x, "no more", x.idle(0, 1, 256), -2);
        check.fine(x, "excess", x.excess(0, 1), 256 * 12);
        check.fine(x, "pairs", x.pairs(0, 1), 128 * 12);
        check.fine(x, "centre", x.centre(0, 0), 0);
        check.fine(x, "its farthest", x.centre(0, 1), 4);
        check.fine(x, "nearest", x.nearest(0, 255), 255);
        check.fine(x, "ring", x.ring(0, 255, 4), 81);
        check.fine(x, "column", x.column(0, 3, 3), 64);
        check.fine(x, "worth", x.worth(0, 255, 0), 1);
        check.fine(x, "worth", x.worth(0, 255, 1), 0);
        check.fine(x, "shorter", x.shorter(1, 0, 3, 3), 64);
        check.due("swap", x.swap(2, 0, 0, 3), true);
        check.fine(x, "the same", x.same(0, 2), 1);
        check.due("shift", x.shift(2, 0, 3, 3), true);
        check.fine(x, "the same", x.same(0, 2), 1);
        check.fine(x, "mix", x.mix(2, 0, 0, 0), 256);
        check.fine(x, "holes", x.holes(3, 0, 0), 0);
        check.fine(x, "holes of none", x.holes(3, 3, 0), 256);
        check.fine(x, "the same", x.same(0, 3), 1);
        check.fine(x, "longer", x.longer(3, 1, 4, 1), 256);
        check.fine(x, "the same", x.same(0, 3), 1);
        check.fine(x, "thin by 0", x.thin(0, 0), 0);
        check.fine(x, "thin by all", x.thin(0, 4), 255);
        check.codewords(x, "thin by all", 0, 0);
    }

    private static void numbers() {
        check.of("Terms I: The NUMBER of a WORD: the first place the highest; WORDS are in order by NUMBERS, 0 ..");
        SlipCovers x = Feeding.of("code a on 4 3 2: 320, 001, 010, 321, 100, 000");
        check.codewords(x, "in order", 0, 0, 1, 2, 6, 22, 23);
        int[] digits = {2, 1, 1};
        for (int i = 0; i < 3; i++) check.fine(x, "digit of 15", x.digit(0, 15, i), digits[i]);
        check.refused(x, "word -1", x.digit(0, -1, 0), 1);
        check.refused(x, "word 24", x.digit(0, 24, 0), 1);
    }

    private static void withoutCodewords() {
        check.of("Terms I: its CODEWORDS (none, too)");
        SlipCovers x = Feeding.of("code a on 2 3 weigh 2 1: 00; code b on 2 3 weigh 2 1: 12");
        check.fine(x, "none left", x.set(0, 0, false), 0);
        int[] about = {2, 6, 0, 3, -2, -2};
        for (int k = 0; k < 6; k++) check.fine(x, "about " + k, x.about(0, k), about[k]);
        check.fine(x, "word", x.word(0, 0), -2);
        check.fine(x, "has", x.has(0, 0), 0);
        check.fine(x, "covered", x.covered(0, 24), 0);
        check.fine(x, "times", x.times(0, 0, 24), 0);
        check.fine(x, "table 0", x.table(0, 24, 0), 6);
        check.fine(x, "table 1", x.table(0, 24, 1), 0);
        for (int k = 0; k < 7; k++) check.fine(x, "hole " + k, x.hole(0, 24, k), k < 6 ? k : -2);
        check.fine(x, "idle", x.idle(0, 24, 0), -2);
        check.fine(x, "excess", x.excess(0, 24), 0);
        check.fine(x, "bound", x.bound(0, 1), 2);
        check.fine(x, "pairs", x.pairs(0, 0), 0);
        check.refused(x, "centre", x.centre(0, 0), 5);
        check.refused(x, "centre", x.centre(0, 1), 5);
        check.refused(x, "nearest", x.nearest(0, 0), 5);
        check.fine(x, "ring", x.ring(0, 0, 0), 0);
        check.fine(x, "column", x.column(0, 0, 0), 0);
        check.refused(x, "worth", x.worth(0, 0, 0), 5);
        check.fine(x, "fewest", x.fewest(0, 1, 0), 2);
        check.fine(x, "thin", x.thin(0, 1), 0);
        check.fine(x, "better", x.better(0, 0), 0);
        check.fine(x, "sum", x.sum(2, 0, 1), 0);
        check.fine(x, "sum's words", x.about(2, 1), 36);
        check.fine(x, "sum", x.sum(2, 1, 0), 0);
        check.fine(x, "longer", x.longer(2, 0, 2, 1), 0);
        check.fine(x, "shorter", x.shorter(2, 0, 0, 0), 0);
        check.fine(x, "join", x.join(2, 2, 2), 0);
        check.due("swap", x.swap(2, 0, 0, 1), true);
        check.places(x, "swap", 2, 3, 1, 2, 2);
        check.due("shift", x.shift(2, 0, 0, 1), true);
        check.fine(x, "mix 0", x.mix(2, 0, 1, 0), 1);
        check.fine(x, "mix 1", x.mix(2, 0, 1, 1), 0);
        check.fine(x, "mix 2", x.mix(2, 0, 1, 2), 0);
        check.fine(x, "same", x.same(0, 2), 1);
        check.fine(x, "same", x.same(0, 1), 0);
        check.fine(x, "greedy", x.greedy(2, 24), 1);
        check.fine(x, "all are holes", x.holes(3, 0, 24), 6);
    }

    private static void codes0to7() {
        check.of("Terms I: CODES 0 .. 7, each told or none");
        SlipCovers x = Feeding.of("code a on 2: 0");
        for (int c = 1; c < 8; c++) {
            check.refused(x, "none at " + c, x.about(c, 0), 1);
            check.due("made at " + c, x.shift(c, 0, 0, 1), true);
            check.fine(x, "told at " + c, x.word(c, 0), 1);
        }
        for (int c : new int[] {-1, 8, Integer.MIN_VALUE, Integer.MAX_VALUE}) {
            check.refused(x, "none at " + c, x.about(c, 0), 1);
            check.refused(x, "not made at " + c, x.shift(c, 0, 0, 1), 1);
        }
    }

    private interface OfCode {
        int ask(SlipCovers x, int c);
    }

    private static void oneAtATime() {
        check.of("Terms I: A CODE is a SPACE and some of its WORDS: of each its own, whichever was asked ahead of it");
        OfCode[] calls = {
            (x, c) -> x.about(c, 3), (x, c) -> x.about(c, 4), (x, c) -> x.about(c, 5), (x, c) -> x.digit(c, 5, 1),
            (x, c) -> x.far(c, 5, 1), (x, c) -> x.ball(c, 2), (x, c) -> x.ballAt(c, 3, 2, 1), (x, c) -> x.covered(c, 2),
            (x, c) -> x.times(c, 4, 2), (x, c) -> x.table(c, 2, 1), (x, c) -> x.hole(c, 1, 0), (x, c) -> x.idle(c, 3, 0),
            (x, c) -> x.excess(c, 3), (x, c) -> x.bound(c, 2), (x, c) -> x.pairs(c, 2), (x, c) -> x.centre(c, 0),
            (x, c) -> x.centre(c, 1), (x, c) -> x.nearest(c, 4), (x, c) -> x.ring(c, 4, 1), (x, c) -> x.column(c, 1, 1),
            (x, c) -> x.worth(c, 0, 2), (x, c) -> x.fewest(c, 2, 0), (x, c) -> x.fewest(c, 2, 1), (x, c) -> x.fewest(c, 2, 3),
            (x, c) -> x.greedy(c, 1), (x, c) -> x.thin(c, 2), (x, c) -> x.better(c, 1), (x, c) -> x.holes(7, c, 1),
            (x, c) -> x.swap(7, c, 0, 1) ? x.word(7, 1) : -1, (x, c) -> x.shift(7, c, 1, 1) ? x.word(7, 1) : -1
        };
        String text = "code a on 2 3 weigh 2 1: 00, 01, 11; code b on 4 4 weigh 1 3: 00, 12, 22, 33";
        for (int k = 0; k < calls.length; k++) {
            for (int c = 0; c < 2; c++) {
                int alone = calls[k].ask(Feeding.of(text), c);
                for (int before = 0; before < calls.length; before++) {
                    if (before >= 24 && before <= 26) continue;
                    SlipCovers x = Feeding.of(text);
                    calls[before].ask(x, 1 - c);
                    check.due("call " + k + " of " + c + " behind call " + before, calls[k].ask(x, c), alone);
                }
            }
        }
    }

    // ---- Terms II

    private static void far() {
        check.of("Terms II: FAR: WEIGHTS of the places with unlike digits, together (0 .. 24)");
        SlipCovers x = Feeding.of(EIGHT + "; code b on 4 4 weigh 3 1: 00");
        check.fine(x, "of itself", x.far(0, 255, 255), 0);
        check.fine(x, "all places", x.far(0, 0, 255), 24);
        check.fine(x, "all but one", x.far(0, 1, 255), 21);
        check.fine(x, "greatest", x.about(0, 3), 24);
        // Unlike is unlike: 0 and 3 are no farther than 0 and 1.
        for (int d = 1; d < 4; d++) check.fine(x, "digit " + d, x.far(1, 0, 4 * d), 3);
        for (int d = 1; d < 4; d++) check.fine(x, "digit " + d, x.far(1, d, 0), 1);
        check.fine(x, "2 and 1", x.far(1, 2, 1), 1);
    }

    private static void slips() {
        check.of("Terms II: r (SLIPS) is 0 .. 24");
        for (int r : new int[] {-1, 0, 24, 25, Integer.MIN_VALUE, Integer.MAX_VALUE}) {
            SlipCovers x = Feeding.of("code a on 2 2 2: 000, 111");
            boolean in = r == 0 || r == 24;
            int[] got = {x.ball(0, r), x.trouble(), x.ballAt(0, 0, r, 0), x.trouble(), x.covered(0, r), x.trouble(),
                x.times(0, 0, r), x.trouble(), x.table(0, r, 0), x.trouble(), x.hole(0, r, 0), x.trouble(),
                x.idle(0, r, 0), x.trouble(), x.excess(0, r), x.trouble(), x.bound(0, r), x.trouble(),
                x.worth(0, 0, r), x.trouble(), x.fewest(0, r, 0), x.trouble(), x.holes(1, 0, r), x.trouble(),
                x.better(0, r), x.trouble(), x.greedy(0, r), x.trouble(), x.thin(0, r), x.trouble()};
            // By 0 each is within r of itself alone, by 24 all are within r of both.
            int[] by0 = {1, 0, 2, 1, 6, 1, -2, 0, 8, 1, 8, 6, 0, 6, 0};
            int[] by24 = {8, 0, 8, 2, 0, -2, 0, 8, 1, 0, 1, 0, 0, 0, 1};
            for (int k = 0; k < by0.length; k++) {
                int want = !in ? -1 : r == 0 ? by0[k] : by24[k];
                check.due("r " + r + ", call " + k, got[2 * k], want);
                check.due("r " + r + ", trouble of call " + k, got[2 * k + 1], in ? 0 : 2);
            }
        }
    }

    private static void balls() {
        check.of("Terms II: BALL of a WORD: all WORDS that are r FAR from it or less, itself, too");
        SlipCovers x = Feeding.of(EIGHT + "; code b on 2 3 weigh 3 2: 00");
        check.fine(x, "r 0", x.ball(0, 0), 1);
        check.fine(x, "itself", x.ballAt(0, 77, 0, 0), 77);
        check.fine(x, "no more", x.ballAt(0, 77, 0, 1), -2);
        check.fine(x, "just less than a slip", x.ball(0, 2), 1);
        check.fine(x, "just a slip", x.ball(0, 3), 9);
        check.fine(x, "all but the farthest", x.ball(0, 23), 255);
        check.fine(x, "all", x.ball(0, 24), 256);
        int[] sizes = {1, 1, 3, 4, 4, 6};
        for (int r = 0; r < 6; r++) check.fine(x, "r " + r, x.ball(1, r), sizes[r]);
        check.of("Terms II: all BALLS of a SPACE have as many");
        for (int w = 0; w < 6; w++) {
            for (int r = 0; r < 6; r++) {
                check.fine(x, "the last of " + w + " by " + r, x.ballAt(1, w, r, sizes[r] - 1) >= 0 ? 1 : 0, 1);
                check.fine(x, "behind the last", x.ballAt(1, w, r, sizes[r]), -2);
            }
        }
    }

    private static void times() {
        check.of("Terms II: A WORD is COVERED so many TIMES as there are CODEWORDS within r of it");
        SlipCovers x = Feeding.of("code a on 2 2 weigh 2 3: 00, 01, 10, 11");
        int[] times = {1, 1, 2, 3, 3, 4};
        for (int r = 0; r < 6; r++) for (int w = 0; w < 4; w++) check.fine(x, w + " by " + r, x.times(0, w, r), times[r]);
        x.set(0, 3, false);
        check.fine(x, "no codeword itself", x.times(0, 3, 1), 0);
        check.fine(x, "just r far", x.times(0, 3, 2), 1);
    }

    private static void holes() {
        check.of("Terms II: HOLES: WORDS that aren't COVERED");
        SlipCovers x = Feeding.of("code a on 2 2 weigh 2 3: 00");
        check.fine(x, "r 4", x.hole(0, 4, 0), 3);
        check.fine(x, "r 4", x.hole(0, 4, 1), -2);
        check.fine(x, "r 5", x.hole(0, 5, 0), -2);
        check.fine(x, "none covered once too often", x.covered(0, 5), 4);
    }

    private static void idle() {
        check.of("Terms II: IDLE: a CODEWORD without which (it alone) as many WORDS are COVERED");
        // 0 and 1 cover the same two words by 1: either is idle, as long as the other stays.
        SlipCovers x = Feeding.of("code a on 2 2 weigh 3 1: 00, 01");
        check.fine(x, "both", x.idle(0, 1, 0), 0);
        check.fine(x, "both", x.idle(0, 1, 1), 1);
        check.fine(x, "both", x.idle(0, 1, 2), -2);
        x.set(0, 1, false);
        check.fine(x, "alone", x.idle(0, 1, 0), -2);
        check.fine(x, "alone", x.idle(0, 24, 0), -2);
        x.set(0, 2, true);
        check.fine(x, "apart", x.idle(0, 1, 0), -2);
        check.fine(x, "near", x.idle(0, 3, 0), -2);
        check.fine(x, "by all", x.idle(0, 4, 0), 0);
    }

    private static void radius() {
        check.of("Terms II: RADIUS: the least r by which all are COVERED (NONE without CODEWORDS)");
        SlipCovers x = Feeding.of(EIGHT + "; code b on 2 2 weigh 1 3: 00, 01, 10, 11; code c on 2 2 weigh 1 3: 00");
        check.fine(x, "one, all places", x.about(0, 4), 24);
        check.fine(x, "all words", x.about(1, 4), 0);
        check.fine(x, "one", x.about(2, 4), 4);
        x.set(2, 3, true);
        check.fine(x, "two", x.about(2, 4), 1);
        x.set(2, 3, false);
        x.set(2, 0, false);
        check.fine(x, "none", x.about(2, 4), -2);
    }

    private static void apart() {
        check.of("Terms II: APART: the least FAR of two unlike CODEWORDS");
        SlipCovers x = Feeding.of(EIGHT + "; code b on 2 2 weigh 1 3: 00");
        check.fine(x, "one", x.about(1, 5), -2);
        x.set(1, 3, true);
        check.fine(x, "two", x.about(1, 5), 4);
        x.set(1, 2, true);
        check.fine(x, "three", x.about(1, 5), 1);
        x.set(0, 255, true);
        check.fine(x, "farthest", x.about(0, 5), 24);
        x.set(0, 254, true);
        check.fine(x, "the last two", x.about(0, 5), 3);
        x.set(0, 254, false);
        x.set(0, 255, false);
        x.set(0, 0, false);
        check.fine(x, "none", x.about(0, 5), -2);
    }

    private static void bound() {
        check.of("Terms II: BOUND: how many WORDS there are by how many a BALL has, upwards");
        // Words 8, balls 1, 4, 7, 8: just, just, more than once, just once.
        SlipCovers x = Feeding.of("code a on 2 2 2: 000; code b on 3 3 3 3: 0000; code c on 4 4 4 4: 0000");
        int[] by = {8, 2, 2, 1, 1};
        for (int r = 0; r < 5; r++) check.fine(x, "8 by " + r, x.bound(0, r), by[r]);
        // 81 by 9 is 9; by 33 is 2 and 15 more; by 65 is 1 and 16 more.
        int[] of81 = {81, 9, 3, 2, 1};
        for (int r = 0; r < 5; r++) check.fine(x, "81 by " + r, x.bound(1, r), of81[r]);
        // 256 by 13 is 19 and 9 more; by 67 is 3 and 55 more; by 175 is 1 and 81 more.
        int[] of256 = {256, 20, 4, 2, 1};
        for (int r = 0; r < 5; r++) check.fine(x, "256 by " + r, x.bound(2, r), of256[r]);
    }

    private static void excess() {
        check.of("Terms II: EXCESS: TIMES of all WORDS that are COVERED, each less 1, together");
        SlipCovers x = Feeding.of("code a on 2 2 2: 000, 001; code b on 4 4 4 4: 0000");
        check.fine(x, "holes have none", x.excess(0, 0), 0);
        check.fine(x, "two words twice, four once, two holes", x.excess(0, 1), 2);
        check.fine(x, "all twice", x.excess(0, 3), 8);
        x.greedy(1, 0);
        check.fine(x, "all 256 by all", x.excess(1, 24), 256 * 255);
    }

    private static void centre() {
        check.of("Terms II: CENTRE: the WORD of which the greatest FAR to a CODEWORD is least, of like ones the first");
        SlipCovers x = Feeding.of("code a on 2 2 2 weigh 1 1 2: 000, 110; code b on 2 2: 11; code c on 2 2: 00, 01, 10, 11");
        check.fine(x, "010 (2) ahead of 100 (4)", x.centre(0, 0), 2);
        check.fine(x, "its farthest", x.centre(0, 1), 1);
        check.fine(x, "one codeword", x.centre(1, 0), 3);
        check.fine(x, "one codeword", x.centre(1, 1), 0);
        check.fine(x, "all alike", x.centre(2, 0), 0);
        check.fine(x, "all alike", x.centre(2, 1), 2);
    }

    // ---- FEWEST

    private static SlipCovers space(String sizes, String weights) {
        String word = sizes.replace(" ", "").replaceAll(".", "0");
        return Feeding.of("code a on " + sizes + " weigh " + weights + ": " + word);
    }

    private static void found(SlipCovers x, int r, int steps, int... row) {
        check.fine(x, "how many", x.fewest(0, r, 0), row.length);
        check.fine(x, "steps", x.fewest(0, r, 1), steps);
        for (int k = 0; k < 8; k++) check.fine(x, "row " + k, x.fewest(0, r, 2 + k), k < row.length ? row[k] : -2);
    }

    private static void givenUp(SlipCovers x, int r, int steps) {
        check.fine(x, "steps", x.fewest(0, r, 1), steps);
        for (int what = 0; what <= 9; what++) if (what != 1) check.fine(x, "given up " + what, x.fewest(0, r, what), -2);
    }

    private static void fewestFound() {
        check.of("Terms II: FEWEST: for n = 1, 2, .. : if all are COVERED by those taken: found");
        found(space("2", "1"), 1, 1, 0);
        found(space("2", "1"), 0, 2, 0, 1);
        found(space("2 2 2", "1 1 1"), 3, 1, 0);
        found(space("2 2 2", "1 1 1"), 24, 1, 0);
        check.of("Terms II: FEWEST: those that may be taken times a BALL are fewer than what isn't COVERED: back");
        // With just as many it goes on: 2 balls of 4 for 8 words. 1 step, then 1, 2, 3 in vain ahead of 7.
        found(space("2 2 2", "1 1 1"), 1, 5, 0, 7);
        // Balls of 3 and of 2 for 6 words, which lie side by side: not a step is in vain.
        found(space("3 2", "1 2"), 1, 2, 0, 1);
        found(space("3 2", "2 1"), 1, 3, 0, 2, 4);
        check.of("Terms II: FEWEST: n = .. 8");
        found(space("2 2 2", "1 1 1"), 0, 8, 0, 1, 2, 3, 4, 5, 6, 7);
        check.of("Terms II: FEWEST's ROW (in the order in which they were taken)");
        found(space("2 2 4 2 2", "1 3 1 3 2"), 2, 8, 0, 2, 1, 3, 16, 18, 17, 19);
    }

    private static void fewestByEight() {
        check.of("Terms II: FEWEST: It is given up if 8 aren't enough");
        // 9 words by 0: 8 balls have 8, so that no step is taken.
        givenUp(space("3 3", "1 1"), 0, 0);
        givenUp(space("3 3 3 3", "1 1 1 1"), 1, 0);
        // 24 words, balls of 3 (the third and fourth places): 8 balls of 3 would do if they didn't meet.
        givenUp(space("2 3 2 2", "2 2 1 1"), 1, 12);
    }

    private static void fewestBySteps() {
        check.of("Terms II: FEWEST: It is given up where a 60,001st STEP would be taken (all n together)");
        found(space("3 2 2 2 3", "3 2 2 1 3"), 4, 59883, 0, 19, 32, 38, 49, 66);
        // These would be found by 60,031 and 60,100 steps.
        givenUp(space("3 4 2 2", "2 3 1 2"), 4, 60000);
        givenUp(space("2 3 2 2 2", "1 2 2 2 3"), 3, 60000);
        // 8 aren't enough here, but that would show by 61,434 steps alone.
        givenUp(space("3 3 2 2 2", "2 3 1 1 1"), 2, 60000);
        givenUp(space("4 4 4", "1 1 1"), 1, 60000);
    }

    private static void fewestOf81() {
        check.of("Terms II: FEWEST by r (in a SPACE of 81 WORDS or fewer)");
        found(space("3 3 3 3", "1 1 1 1"), 4, 1, 0);
        found(space("3 3 3 3", "1 1 1 1"), 2, 684, 0, 40, 80);
        found(space("3 3 3 3", "1 1 1 1"), 3, 4293, 0, 1, 2);
        found(space("3 3 4 2", "3 3 3 1"), 4, 59754, 0, 2, 36, 62, 68, 46);
        // There is no space of 82 to 95 words.
        for (String sizes : new String[] {"2 3 4 4", "2 2 2 2 2 3", "4 4 4 2", "4 4 4 4"}) {
            SlipCovers x = space(sizes, sizes.replaceAll("[0-9]", "1"));
            for (int what = 0; what <= 9; what++) check.refused(x, sizes, x.fewest(0, 24, what), 5);
        }
    }

    private static void fewestAndCodewords() {
        check.of("Terms II: FEWEST: (CODEWORDS there are don't matter.)");
        SlipCovers x = space("2 2 2", "1 1 1");
        found(x, 1, 5, 0, 7);
        x.greedy(0, 0);
        found(x, 1, 5, 0, 7);
        x.mix(0, 0, 0, 2);
        found(x, 1, 5, 0, 7);
        check.due("nor are they changed", x.about(0, 2), 0);
    }

    // ---- Terms III

    private static void tenActs() {
        check.of("Terms III: the latest 10 that weren't refused can be undone, the latest first");
        for (int acts = 0; acts <= 13; acts++) {
            SlipCovers x = Feeding.of("code a on 4 4: 00");
            for (int k = 1; k <= acts; k++) x.set(0, k, true);
            int can = Math.min(acts, 10);
            for (int k = can - 1; k >= 0; k--) {
                check.fine(x, "undo of " + acts, x.undo(), k);
                check.due("codewords are left", x.about(0, 2), 1 + acts - can + k);
                check.due("the latest went", x.word(0, acts - can + k), acts - can + k);
            }
            check.refused(x, "no more of " + acts, x.undo(), 5);
            check.due("what is too old stays", x.about(0, 2), 1 + acts - can);
        }
        check.of("Terms III: those that were refused don't count among the 10");
        SlipCovers x = Feeding.of("code a on 4 4: 00");
        for (int k = 1; k <= 10; k++) {
            x.set(0, k, true);
            x.set(0, k, true);
            x.longer(8, 0, 2, 1);
        }
        for (int k = 9; k >= 0; k--) check.fine(x, "undo", x.undo(), k);
        check.codewords(x, "all ten", 0, 0);
        check.of("Terms III: an ACT behind one undone is among the 10");
        for (int k = 1; k <= 10; k++) x.set(0, k, true);
        check.fine(x, "one undone", x.undo(), 9);
        x.set(0, 15, true);
        check.fine(x, "another instead", x.undo(), 9);
        x.set(0, 14, true);
        x.set(0, 13, true);
        for (int k = 9; k >= 0; k--) check.fine(x, "ten", x.undo(), k);
        check.codewords(x, "the eldest stays", 0, 0, 1);
    }

    private static void textLeavesNone() {
        check.of("Terms III: (a TEXT leaves none)");
        SlipCovers x = Feeding.of("code a on 2 2: 00");
        for (int k = 1; k < 4; k++) x.set(0, k, true);
        Feeding.text(x, "code a on 2 2: 11");
        check.refused(x, "none", x.undo(), 5);
        check.codewords(x, "the text's", 0, 3);
        x.set(0, 0, true);
        check.fine(x, "those behind it", x.undo(), 0);
        check.refused(x, "no more", x.undo(), 5);
        check.of("Terms III: a TEXT that is refused leaves all");
        x.set(0, 0, true);
        x.set(0, 1, true);
        check.faulty(x, "code a on 2 2: 22", 2, 15);
        x.text(1);
        check.fine(x, "the latest", x.undo(), 1);
        check.fine(x, "and that ahead of it", x.undo(), 0);
        check.codewords(x, "as it was", 0, 3);
    }

    private static void oneThereWasIsGone() {
        check.of("Terms III: ACTS make or change a CODE (one there was is gone)");
        SlipCovers x = Feeding.of("code a on 2 2 2 2 weigh 3 3 3 3: 0000, 1111, 1010; code b on 3: 1; code c on 3: 2");
        check.fine(x, "sum", x.sum(0, 1, 2), 1);
        check.places(x, "sum", 0, 3, 1, 3, 1);
        check.codewords(x, "sum", 0, 5);
        check.fine(x, "join", x.join(0, 1, 1), 1);
        check.places(x, "join", 0, 3, 1);
        check.codewords(x, "join", 0, 1);
        check.fine(x, "longer", x.longer(0, 1, 2, 2), 2);
        check.places(x, "longer", 0, 3, 1, 2, 2);
        check.codewords(x, "longer", 0, 2, 3);
        check.fine(x, "mix", x.mix(0, 1, 2, 0), 2);
        check.places(x, "mix", 0, 3, 1);
        check.codewords(x, "mix", 0, 1, 2);
        check.fine(x, "holes", x.holes(0, 1, 0), 2);
        check.codewords(x, "holes", 0, 0, 2);
        check.due("shift", x.shift(0, 1, 0, 1), true);
        check.codewords(x, "shift", 0, 2);
        for (int k = 5; k >= 0; k--) check.fine(x, "undo", x.undo(), k);
        check.places(x, "the first again", 0, 2, 3, 2, 3, 2, 3, 2, 3);
        check.codewords(x, "the first again", 0, 0, 10, 15);
        check.codewords(x, "those read stay", 1, 1);
        check.codewords(x, "those read stay", 2, 2);
    }
}
