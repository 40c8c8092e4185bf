import java.util.NoSuchElementException;

/** The promises, one by one: each sentence that names a bound, with what lies on it and just beyond. */
public final class PromiseBoundsTest {
    private static final int LEAST = Integer.MIN_VALUE;
    private static final int MOST = Integer.MAX_VALUE;
    private static final Check check = new Check();

    public static void main(String[] args) {
        promise1();
        promise2();
        promise2Bytes();
        promise3();
        promise4();
        promise5();
        promise6and7();
        promise8();
        promise9to11();
        promise12and13();
        promise14and15();
        promise16();
        promise17();
        promise18();
        promise19and20();
        promise21();
        promise22();
        promise23();
        promise24();
        promise25();
        promise26();
        promise27();
        promise28();
        promise29();
        promise30();
        promise31();
        promise32();
        promise33();
        promise34();
        promise35();
        promise36();
        promise37();
        promise38();
        promise39();
        promise40();
        promise41();
        promise42();
        promise43and44();
        check.end();
    }

    /** A model told the same text. */
    private static Model modelOf(String text) {
        Model m = new Model();
        int[] n = Feeding.numbers(text);
        for (int k = 0; k < n.length; k += 5) m.feed(n[k], n[k + 1], n[k + 2], n[k + 3], n[k + 4]);
        m.text(text.length());
        return m;
    }

    private static boolean throwsAt(SlipCovers x, int c, int k) {
        try {
            x.letter(c, k);
            return false;
        } catch (NoSuchElementException e) {
            return true;
        }
    }

    // ---- texts

    private static void promise1() {
        check.of("Promise 1: No CODES.");
        SlipCovers x = new SlipCovers();
        check.due("trouble", x.trouble(), 0);
        check.due("where", x.where(), -1);
        check.due("fault", x.fault(), 0);
        check.due("bytes", x.bytes(), 0);
        for (int c = 0; c < 8; c++) {
            check.refused(x, "code " + c, x.about(c, 0), 1);
            check.due("name of " + c, throwsAt(x, c, 0), true);
        }
        check.refused(x, "no act", x.undo(), 5);
        SlipCovers y = Feeding.of("code a on 2: 0");
        check.refused(x, "what another object has", x.about(0, 0), 1);
        check.fine(y, "the other object", y.about(0, 0), 1);
    }

    private static void promise2() {
        check.of("Promise 2: how many it has; NONE, and none comes, if there would be more than 600");
        SlipCovers x = new SlipCovers();
        // 30 feeds: blanks, and the text in the last of them.
        for (int k = 1; k < 30; k++) check.due("feed " + k, x.feed(0x20202020, 0x20202020, 0x20202020, 0x20202020, 0x20202020), 20 * k);
        check.due("feed 30", x.feed(0x636f6465, 0x2061206f, 0x6e203220, 0x3220323a, 0x20313130), 600);
        for (int k = 0; k < 3; k++) {
            check.due("feed 31", x.feed(-1, -1, -1, -1, -1), -1);
            check.due("none comes", x.bytes(), 600);
        }
        check.fine(x, "600 bytes are the text", x.text(600), 1);
        check.codewords(x, "the last bytes", 0, 6);
        check.due("empty, it takes more", x.feed(0, 0, 0, 0, 0), 20);
        check.of("Promise 2: (trouble() stays)");
        for (int number : new int[] {0, 1, 2, 3, 4, 5}) {
            SlipCovers y = Feeding.of("code a on 4 4 4 4: 0000");
            if (number == 4) {
                Feeding.text(y, "code a on 2 5");
            }
            for (int k = 0; k < 30; k++) y.feed(0, 0, 0, 0, 0);
            if (number == 0) y.about(0, 0);
            if (number == 1) y.about(1, 0);
            if (number == 2) y.ball(0, 25);
            if (number == 3) y.longer(0, 0, 2, 1);
            if (number == 5) y.undo();
            check.due("fed too many", y.feed(0, 0, 0, 0, 0), -1);
            check.due("trouble", y.trouble(), number);
            check.due("where", y.where(), number == 4 ? 12 : -1);
            check.due("fault", y.fault(), number == 4 ? 2 : 0);
        }
    }

    private static void promise2Bytes() {
        check.of("Promise 2: of each number the highest first");
        // A byte that begins no token, at each of the twenty places.
        for (int at = 0; at < 20; at++) {
            int[] n = {0x20202020, 0x20202020, 0x20202020, 0x20202020, 0x20202020};
            n[at / 4] ^= 0xdf << 24 - 8 * (at % 4);
            SlipCovers x = new SlipCovers();
            x.feed(n[0], n[1], n[2], n[3], n[4]);
            check.due("byte 255 at " + at, x.text(20), -1);
            check.due("byte 255 at " + at, x.where(), at);
        }
    }

    private static void promise3() {
        check.of("Promise 3: NONE: 2 (n)");
        SlipCovers x = new SlipCovers();
        for (int n : new int[] {1, -1, LEAST, MOST, 20, 600}) check.refused(x, "empty, n " + n, x.text(n), 2);
        x = Feeding.of("code a on 2 2: 01");
        Feeding.feed(x, "code b on 3: 0, 1, 2");
        for (int n : new int[] {-1, 21, 40, 600, 601, LEAST, MOST}) {
            check.refused(x, "n " + n, x.text(n), 2);
            check.due("the tape stays", x.bytes(), 20);
            check.due("the codes stay", x.about(0, 1), 4);
        }
        check.fine(x, "n is all bytes", x.text(20), 1);
        check.codewords(x, "the text", 0, 0, 1, 2);
        check.of("Promise 3: The first n bytes of THE TAPE (it is empty then)");
        for (int n : new int[] {0, 13, 14, 19, 20}) {
            Feeding.feed(x, "code b on 3: 0, 1, 2");
            check.due("n " + n, x.text(n), n == 14 || n == 20 ? 1 : -1);
            check.due("n " + n + ", empty", x.bytes(), 0);
            if (n == 14) check.codewords(x, "the first n alone", 0, 0);
        }
        Feeding.feed(x, "    ");
        check.due("n 0 of blanks", x.text(0), -1);
        check.due("its place", x.where(), 0);
        check.due("n 0 of an empty tape", x.text(0), -1);
        check.due("its fault", x.fault(), 1);
        check.due("its place", x.where(), 0);
        check.of("Promise 3: its CODES are there, others are gone: how many");
        for (int c = 2; c < 8; c++) x.shift(c, 0, 0, 1);
        check.fine(x, "text", Feeding.text(x, "code a on 2: 0; code b on 3: 1"), 2);
        check.places(x, "0", 0, 2, 1);
        check.places(x, "1", 1, 3, 1);
        for (int c = 2; c < 8; c++) check.refused(x, "code " + c, x.about(c, 0), 1);
        check.fine(x, "fewer", Feeding.text(x, "code c on 4: 1"), 1);
        check.places(x, "0", 0, 4, 1);
        check.refused(x, "code 1", x.about(1, 0), 1);
        check.of("Promise 3: NONE: 4");
        check.faulty(x, "code d on 2: 0; code", 1, 20);
        check.due("empty", x.bytes(), 0);
        check.places(x, "0", 0, 4, 1);
        check.refused(x, "no code of it", x.about(1, 0), 1);
    }

    private static void promise4() {
        check.of("Promise 4: 0 ahead of any");
        SlipCovers x = new SlipCovers();
        check.due("new", x.fault(), 0);
        x.text(1);
        check.due("refused by 2", x.fault(), 0);
        check.of("Promise 4: The FAULT of the latest text() not refused by 2");
        String[] faulty = {"code", "code a on 5", "code a on 2: 0, 0", "code a on 4 4 4 4 4"};
        for (int k = 0; k < 4; k++) {
            Feeding.text(x, faulty[k]);
            check.due("fault", x.fault(), k + 1);
            x.text(-1);
            x.text(1);
            check.due("behind one refused by 2", x.fault(), k + 1);
            x.about(0, 0);
            x.undo();
            x.feed(0, 0, 0, 0, 0);
            check.due("behind other calls", x.fault(), k + 1);
            x.text(20);
            check.due("a later fault", x.fault(), 1);
        }
        check.of("Promise 4: 0 without one");
        Feeding.text(x, "code a on 5");
        Feeding.text(x, "code a on 4: 0");
        check.due("sound", x.fault(), 0);
        x.text(1);
        check.due("and refused by 2", x.fault(), 0);
    }

    private static void promise5() {
        check.of("Promise 5: Its place, if the latest call that may be refused was by 4");
        SlipCovers x = Feeding.of("code a on 2 2: 01");
        for (int k = 0; k < 3; k++) {
            Feeding.text(x, "   code a on 7");
            check.due("place", x.where(), 13);
        }
        x.feed(0, 0, 0, 0, 0);
        x.fault();
        x.bytes();
        x.trouble();
        x.where();
        x.letter(0, 0);
        throwsAt(x, 0, 1);
        check.due("calls that can't be refused", x.where(), 13);
        check.due("nor do they change this", x.trouble(), 4);
        check.of("Promise 5: NONE else");
        x.has(0, 0);
        check.due("behind a call that was not refused", x.where(), -1);
        Feeding.text(x, "code a on 7");
        x.has(0, 4);
        check.due("by 1", x.where(), -1);
        Feeding.text(x, "code a on 7");
        x.ball(0, 25);
        check.due("by 2", x.where(), -1);
        Feeding.text(x, "code a on 7");
        x.text(MOST);
        check.due("by 2, of a text", x.where(), -1);
        Feeding.text(x, "code a on 7");
        x.undo();
        check.due("by 5", x.where(), -1);
        for (int k = 0; k < 6; k++) x.longer(0, 0, 2, 1);
        Feeding.text(x, "code a on 7");
        x.longer(0, 0, 2, 1);
        check.due("by 3", x.where(), -1);
        Feeding.text(x, "code a on 7");
        Feeding.text(x, "code a on 2: 0");
        check.due("a sound text", x.where(), -1);
    }

    // ---- words

    private static void promise6and7() {
        check.of("Promise 6: 3 the greatest FAR there is in it");
        SlipCovers x = Feeding.of("code a on 2 3 weigh 3 2: 00, 01; code b on 2: 1; code c on 2 2: 00, 01, 10");
        check.fine(x, "of its space, whichever codewords there are", x.about(0, 3), 5);
        check.fine(x, "one place", x.about(1, 3), 1);
        check.of("Promise 6: 4 RADIUS (-2 without CODEWORDS), 5 APART (-2 with fewer than two)");
        check.fine(x, "radius of one", x.about(1, 4), 1);
        check.fine(x, "apart of one", x.about(1, 5), -2);
        x.set(1, 1, false);
        check.fine(x, "radius of none", x.about(1, 4), -2);
        check.fine(x, "apart of none", x.about(1, 5), -2);
        check.fine(x, "apart of two", x.about(0, 5), 2);
        check.of("Promise 6: NONE: 1 (what, too)");
        for (int what : new int[] {-1, 6, LEAST, MOST}) check.refused(x, "what " + what, x.about(0, what), 1);
        check.of("Promise 7: NONE: 1 (what, too)");
        for (int what : new int[] {-1, 2, LEAST, MOST}) check.refused(x, "what " + what, x.place(0, 0, what), 1);
        check.fine(x, "what 0", x.place(0, 1, 0), 3);
        check.fine(x, "what 1", x.place(0, 1, 1), 2);
        for (int i : new int[] {-1, 2, 7, 8, LEAST, MOST}) check.refused(x, "place " + i, x.place(0, i, 0), 1);
    }

    private static void promise8() {
        check.of("Promise 8: The k-th CODEWORD (0: the first); -2 there are not so many");
        SlipCovers x = Feeding.of("code a on 4 4 4 4: 0001, 3333");
        check.fine(x, "the first", x.word(0, 0), 1);
        check.fine(x, "the last", x.word(0, 1), 255);
        for (int k : new int[] {2, 255, 256, MOST}) check.fine(x, "k " + k, x.word(0, k), -2);
        check.of("Promise 8: NONE: 1 (k below 0, too)");
        check.refused(x, "k -1", x.word(0, -1), 1);
        check.refused(x, "least", x.word(0, LEAST), 1);
        x.greedy(0, 0);
        check.fine(x, "all 256", x.word(0, 255), 255);
        check.fine(x, "all 256", x.word(0, 256), -2);
    }

    private static void promise9to11() {
        SlipCovers x = Feeding.of("code a on 2 3: 12");
        for (int w : new int[] {-1, 6, 255, 256, LEAST, MOST}) {
            check.of("Promise 9: NONE: 1.");
            check.refused(x, "word " + w, x.has(0, w), 1);
            check.of("Promise 10: NONE: 1.");
            check.refused(x, "word " + w, x.digit(0, w, 0), 1);
            check.refused(x, "place " + w, x.digit(0, 0, w), 1);
            check.of("Promise 11: NONE: 1.");
            check.refused(x, "word " + w, x.far(0, w, 0), 1);
            check.refused(x, "word " + w, x.far(0, 0, w), 1);
        }
        check.of("Promise 9: 1 if a WORD is a CODEWORD, 0.");
        for (int w = 0; w < 6; w++) check.fine(x, "word " + w, x.has(0, w), w == 5 ? 1 : 0);
        check.of("Promise 10: The digit of a WORD at a place (the first, the last)");
        check.fine(x, "the first place", x.digit(0, 5, 0), 1);
        check.fine(x, "the last place", x.digit(0, 5, 1), 2);
        check.refused(x, "behind the last", x.digit(0, 5, 2), 1);
        check.of("Promise 11: FAR of two WORDS (the same, too)");
        check.fine(x, "the same", x.far(0, 5, 5), 0);
        check.fine(x, "the first and the last", x.far(0, 0, 5), 2);
        check.fine(x, "the last and the first", x.far(0, 5, 0), 2);
    }

    private static void promise12and13() {
        check.of("Promise 12: NONE: 1; 2 (r)");
        SlipCovers x = Feeding.of("code a on 2 2 2: 111");
        for (int r : new int[] {-1, 25, LEAST, MOST}) check.refused(x, "r " + r, x.ball(0, r), 2);
        for (int c : new int[] {-1, 1, 8, LEAST, MOST}) check.refused(x, "code " + c, x.ball(c, 25), 1);
        int[] sizes = {1, 4, 7, 8, 8};
        for (int r = 0; r < 5; r++) check.fine(x, "r " + r, x.ball(0, r), sizes[r]);
        check.fine(x, "r 24", x.ball(0, 24), 8);
        check.of("Promise 13: The k-th WORD (0: the first) of the BALL of a WORD; -2 there are not so many");
        int[] ball = {1, 4, 5, 7, -2};
        for (int k = 0; k < 5; k++) check.fine(x, "k " + k, x.ballAt(0, 5, 1, k), ball[k]);
        for (int k : new int[] {8, 256, MOST}) check.fine(x, "k " + k, x.ballAt(0, 5, 24, k), -2);
        check.fine(x, "k 7", x.ballAt(0, 5, 24, 7), 7);
        check.of("Promise 13: NONE: 1 (k below 0, too); 2");
        check.refused(x, "k -1", x.ballAt(0, 5, 1, -1), 1);
        check.refused(x, "least", x.ballAt(0, 5, 1, LEAST), 1);
        check.refused(x, "word", x.ballAt(0, 8, 1, 0), 1);
        check.refused(x, "word", x.ballAt(0, -1, 1, 0), 1);
        check.refused(x, "r", x.ballAt(0, 5, 25, 0), 2);
        check.refused(x, "r", x.ballAt(0, 5, -1, 0), 2);
        check.refused(x, "k and r", x.ballAt(0, 5, -1, -1), 1);
    }

    // ---- what is covered

    private static void promise14and15() {
        check.of("Promise 14: How many WORDS are COVERED (none, all)");
        SlipCovers x = Feeding.of("code a on 2 2 2: 111");
        check.fine(x, "itself", x.covered(0, 0), 1);
        check.fine(x, "all but one", x.covered(0, 2), 7);
        check.fine(x, "all", x.covered(0, 3), 8);
        check.fine(x, "all", x.covered(0, 24), 8);
        check.of("Promise 15: TIMES of a WORD (0, too)");
        check.fine(x, "a hole", x.times(0, 0, 2), 0);
        check.fine(x, "once", x.times(0, 0, 3), 1);
        check.of("Promise 15: NONE: 1; 2");
        check.refused(x, "word", x.times(0, 8, 25), 1);
        check.refused(x, "word", x.times(0, -1, 0), 1);
        check.refused(x, "r", x.times(0, 7, 25), 2);
        x.greedy(0, 0);
        check.fine(x, "by all", x.times(0, 0, 3), 8);
        check.of("Promise 14: How many WORDS are COVERED (none, all)");
        x.mix(0, 0, 0, 2);
        check.fine(x, "none", x.covered(0, 24), 0);
    }

    private static void promise16() {
        check.of("Promise 16: How many WORDS are COVERED just k (0 .. ) TIMES");
        SlipCovers x = Feeding.of("code a on 4 4 4 4: 0000; code b on 2 2: 00, 01");
        check.fine(x, "k 0, none covered but one", x.table(0, 0, 0), 255);
        check.fine(x, "k 0, no holes", x.table(0, 4, 0), 0);
        check.fine(x, "k 2", x.table(1, 1, 2), 2);
        check.fine(x, "k 1", x.table(1, 1, 1), 2);
        check.fine(x, "k beyond the codewords", x.table(1, 1, 3), 0);
        for (int k : new int[] {256, 257, MOST}) check.fine(x, "k beyond all", x.table(1, 24, k), 0);
        x.greedy(0, 0);
        check.fine(x, "k 256", x.table(0, 24, 256), 256);
        check.fine(x, "k 255", x.table(0, 24, 255), 0);
        check.fine(x, "k 257", x.table(0, 24, 257), 0);
        check.of("Promise 16: NONE: 1; 2 (r, k below 0)");
        check.refused(x, "k -1", x.table(1, 1, -1), 2);
        check.refused(x, "least", x.table(1, 1, LEAST), 2);
        check.refused(x, "r", x.table(1, 25, 0), 2);
        check.refused(x, "code ahead of k", x.table(2, 1, -1), 1);
    }

    private static void promise17() {
        check.of("Promise 17: The k-th HOLE (0: the first); -2 there are not so many");
        SlipCovers x = Feeding.of("code a on 2 2 2: 000");
        int[] holes = {3, 5, 6, 7, -2};
        for (int k = 0; k < 5; k++) check.fine(x, "k " + k, x.hole(0, 1, k), holes[k]);
        check.fine(x, "most", x.hole(0, 1, MOST), -2);
        check.fine(x, "no holes", x.hole(0, 3, 0), -2);
        check.of("Promise 17: NONE: 1 (k below 0, too); 2");
        check.refused(x, "k -1", x.hole(0, 1, -1), 1);
        check.refused(x, "least", x.hole(0, 1, LEAST), 1);
        check.refused(x, "k and r", x.hole(0, 25, -1), 1);
        check.refused(x, "r", x.hole(0, 25, 0), 2);
    }

    private static void promise18() {
        check.of("Promise 18: The k-th IDLE CODEWORD (0: the first); -2 there are not so many");
        SlipCovers x = Feeding.of("code a on 2 2 2: 000, 001, 111, 011");
        // By 1: 000 alone covers 100, and 111 alone 110; what 001 and 011 cover is covered twice and more.
        int[] idle = {1, 3, -2};
        for (int k = 0; k < 3; k++) check.fine(x, "k " + k, x.idle(0, 1, k), idle[k]);
        check.fine(x, "all by 3", x.idle(0, 3, 3), 7);
        check.fine(x, "not so many", x.idle(0, 3, 4), -2);
        check.fine(x, "most", x.idle(0, 3, MOST), -2);
        check.fine(x, "none by 0", x.idle(0, 0, 0), -2);
        check.of("Promise 18: NONE: 1 (k below 0, too); 2");
        check.refused(x, "k -1", x.idle(0, 1, -1), 1);
        check.refused(x, "least", x.idle(0, 1, LEAST), 1);
        check.refused(x, "k and r", x.idle(0, 25, -1), 1);
        check.refused(x, "r", x.idle(0, 25, 0), 2);
    }

    private static void promise19and20() {
        SlipCovers x = Feeding.of("code a on 2 2 2: 000, 001");
        check.of("Promise 19: NONE: 1; 2.");
        check.refused(x, "r", x.excess(0, 25), 2);
        check.refused(x, "r", x.excess(0, -1), 2);
        check.refused(x, "code ahead of r", x.excess(1, 25), 1);
        check.of("Promise 20: NONE: 1; 2.");
        check.refused(x, "r", x.bound(0, 25), 2);
        check.refused(x, "r", x.bound(0, -1), 2);
        check.refused(x, "code ahead of r", x.bound(1, 25), 1);
    }

    private static void promise21() {
        check.of("Promise 21: How many pairs of unlike CODEWORDS are just k (0 .. ) FAR");
        SlipCovers x = Feeding.of("code a on 2 2 2 weigh 3 3 3: 000, 111, 110; code b on 4 4 4 4: 0000");
        int[] pairs = {0, 0, 0, 1, 0, 0, 1, 0, 0, 1, 0};
        for (int k = 0; k < pairs.length; k++) check.fine(x, "k " + k, x.pairs(0, k), pairs[k]);
        for (int k : new int[] {24, 25, 256, MOST}) check.fine(x, "k " + k, x.pairs(0, k), 0);
        for (int k = 0; k < 5; k++) check.fine(x, "one codeword", x.pairs(1, k), 0);
        x.greedy(1, 0);
        check.fine(x, "256 words, k 0", x.pairs(1, 0), 0);
        check.fine(x, "256 words, k 4", x.pairs(1, 4), 128 * 81);
        check.of("Promise 21: NONE: 1; 2 (k below 0)");
        check.refused(x, "k -1", x.pairs(0, -1), 2);
        check.refused(x, "least", x.pairs(0, LEAST), 2);
        check.refused(x, "code ahead of k", x.pairs(2, -1), 1);
    }

    private static void promise22() {
        check.of("Promise 22: NONE: 1 (what, too); 5 (no CODEWORD)");
        SlipCovers x = Feeding.of("code a on 2 2: 10");
        for (int what : new int[] {-1, 2, LEAST, MOST}) check.refused(x, "what " + what, x.centre(0, what), 1);
        check.fine(x, "one codeword", x.centre(0, 0), 2);
        check.fine(x, "one codeword", x.centre(0, 1), 0);
        x.set(0, 2, false);
        check.refused(x, "none", x.centre(0, 0), 5);
        check.refused(x, "none", x.centre(0, 1), 5);
        check.refused(x, "what ahead of it", x.centre(0, 2), 1);
    }

    private static void promise23() {
        check.of("Promise 23: The CODEWORD nearest to a WORD, the first such");
        SlipCovers x = Feeding.of("code a on 2 2 2: 110, 011");
        check.fine(x, "itself", x.nearest(0, 6), 6);
        check.fine(x, "both 1 far from 111", x.nearest(0, 7), 3);
        check.fine(x, "both 2 far from 000", x.nearest(0, 0), 3);
        check.fine(x, "110 nearer to 100", x.nearest(0, 4), 6);
        check.of("Promise 23: NONE: 1; 5 (no CODEWORD)");
        x.set(0, 6, false);
        check.fine(x, "one", x.nearest(0, 4), 3);
        x.set(0, 3, false);
        check.refused(x, "none", x.nearest(0, 0), 5);
        check.refused(x, "word ahead of it", x.nearest(0, 8), 1);
    }

    private static void promise24() {
        check.of("Promise 24: How many CODEWORDS are just k (0 .. ) FAR from a WORD");
        SlipCovers x = Feeding.of("code a on 2 2 weigh 3 3: 00, 01, 10");
        int[] ofCodeword = {1, 0, 0, 2, 0, 0, 0};
        int[] ofOther = {0, 0, 0, 2, 0, 0, 1};
        for (int k = 0; k < 7; k++) check.fine(x, "codeword, k " + k, x.ring(0, 0, k), ofCodeword[k]);
        for (int k = 0; k < 7; k++) check.fine(x, "other, k " + k, x.ring(0, 3, k), ofOther[k]);
        for (int k : new int[] {7, 24, 25, 256, MOST}) check.fine(x, "beyond all, k " + k, x.ring(0, 3, k), 0);
        check.of("Promise 24: NONE: 1; 2 (k below 0)");
        check.refused(x, "k -1", x.ring(0, 0, -1), 2);
        check.refused(x, "least", x.ring(0, 0, LEAST), 2);
        check.refused(x, "word ahead of k", x.ring(0, 4, -1), 1);
    }

    private static void promise25() {
        check.of("Promise 25: NONE: 1 (CODE, place); 2 (digit)");
        SlipCovers x = Feeding.of("code a on 2 4: 03, 13, 10");
        check.fine(x, "the last digit", x.column(0, 1, 3), 2);
        check.fine(x, "none", x.column(0, 1, 2), 0);
        x.set(0, 0, true);
        check.fine(x, "the first word, too", x.column(0, 1, 0), 2);
        check.fine(x, "the first word, too", x.column(0, 0, 0), 2);
        for (int d : new int[] {-1, 2, 3, LEAST, MOST}) check.refused(x, "digit " + d, x.column(0, 0, d), 2);
        check.refused(x, "digit 4", x.column(0, 1, 4), 2);
        for (int i : new int[] {-1, 2, 8, LEAST, MOST}) check.refused(x, "place " + i, x.column(0, i, -1), 1);
        for (int c : new int[] {-1, 1, 8, LEAST, MOST}) check.refused(x, "code " + c, x.column(c, 0, -1), 1);
    }

    private static void promise26() {
        check.of("Promise 26: NONE: 1; 2; 5 (it is no CODEWORD)");
        SlipCovers x = Feeding.of("code a on 2 2 2: 000, 001");
        check.fine(x, "by 1", x.worth(0, 0, 1), 2);
        check.fine(x, "by 0", x.worth(0, 0, 0), 1);
        check.fine(x, "nothing alone", x.worth(0, 0, 3), 0);
        check.refused(x, "no codeword", x.worth(0, 2, 1), 5);
        check.refused(x, "r ahead of that", x.worth(0, 2, 25), 2);
        check.refused(x, "word ahead of r", x.worth(0, 8, 25), 1);
        x.set(0, 1, false);
        check.refused(x, "no more", x.worth(0, 1, 1), 5);
        check.fine(x, "all alone", x.worth(0, 0, 3), 8);
    }

    private static void promise27() {
        check.of("Promise 27: 0 how many, 1 STEPS, 2 .. 9 the NUMBERS of its ROW (-2 behind it)");
        SlipCovers x = Feeding.of("code a on 2 2 2: 000; code b on 3 3: 00; code c on 2 3 4 4: 0000");
        int[] byOne = {2, 5, 0, 7, -2, -2, -2, -2, -2, -2};
        int[] byNone = {8, 8, 0, 1, 2, 3, 4, 5, 6, 7};
        int[] byAll = {1, 1, 0, -2, -2, -2, -2, -2, -2, -2};
        for (int what = 0; what <= 9; what++) {
            check.fine(x, "r 1, what " + what, x.fewest(0, 1, what), byOne[what]);
            check.fine(x, "r 0, what " + what, x.fewest(0, 0, what), byNone[what]);
            check.fine(x, "r 24, what " + what, x.fewest(0, 24, what), byAll[what]);
        }
        check.of("Promise 27: 0, 2 .. 9: -2 if it is given up");
        for (int what = 0; what <= 9; what++) check.fine(x, "what " + what, x.fewest(1, 0, what), what == 1 ? 0 : -2);
        check.fine(x, "found behind one given up", x.fewest(0, 1, 0), 2);
        check.fine(x, "given up behind one found", x.fewest(1, 0, 2), -2);
        check.fine(x, "found behind one given up", x.fewest(0, 1, 3), 7);
        check.of("Promise 27: NONE: 1 (what, too); 2; 5 (more than 81 WORDS)");
        for (int what : new int[] {-1, 10, LEAST, MOST}) check.refused(x, "what " + what, x.fewest(0, 1, what), 1);
        check.refused(x, "what ahead of r", x.fewest(0, 25, 10), 1);
        check.refused(x, "what ahead of 96 words", x.fewest(2, 1, 10), 1);
        check.refused(x, "r", x.fewest(0, 25, 0), 2);
        check.refused(x, "r ahead of 96 words", x.fewest(2, 25, 0), 2);
        check.refused(x, "96 words", x.fewest(2, 1, 0), 5);
    }

    // ---- acts

    private static void promise28() {
        check.of("Promise 28: NONE: 1; 5 (it is so)");
        SlipCovers x = Feeding.of("code a on 2 2: 00");
        check.refused(x, "is one", x.set(0, 0, true), 5);
        check.refused(x, "is none", x.set(0, 3, false), 5);
        check.refused(x, "word ahead of that", x.set(0, 4, false), 1);
        check.refused(x, "word ahead of that", x.set(0, -1, false), 1);
        check.refused(x, "no act so far", x.undo(), 5);
        check.of("Promise 28: how many there are (none, all)");
        check.fine(x, "none", x.set(0, 0, false), 0);
        for (int w = 3; w >= 0; w--) check.fine(x, "word " + w, x.set(0, w, true), 4 - w);
        check.codewords(x, "all", 0, 0, 1, 2, 3);
        SlipCovers y = Feeding.of("code a on 4 4 4 4: 1000");
        int[] words = {0, 63, 127, 128, 191, 192, 255};
        for (int k = 0; k < words.length; k++) check.fine(y, "word " + words[k], y.set(0, words[k], true), k + 2);
        check.codewords(y, "of 256 words", 0, 0, 63, 64, 127, 128, 191, 192, 255);
        for (int k = 0; k < words.length; k++) {
            check.fine(y, "no more " + words[k], y.set(0, words[k], false), 7 - k);
            check.fine(y, "no more " + words[k], y.has(0, words[k]), 0);
        }
        check.codewords(y, "of 256 words", 0, 64);
    }

    private static void promise29() {
        check.of("Promise 29: as long as there are HOLES (no HOLES)");
        SlipCovers x = Feeding.of("code a on 2 2 2: 000, 111; code b on 4 4 4 4: 1111");
        check.fine(x, "none came", x.greedy(0, 1), 0);
        check.codewords(x, "nothing changed", 0, 0, 7);
        check.fine(x, "an act that can be undone", x.undo(), 0);
        check.of("Promise 29: the WORD that COVERS the most of them, of like ones the first");
        // 001 to 110 are holes by 0, and each covers one.
        check.fine(x, "all", x.greedy(0, 0), 6);
        check.fine(x, "all", x.about(0, 2), 8);
        check.fine(x, "255 came", x.greedy(1, 0), 255);
        check.fine(x, "none came", x.greedy(1, 0), 0);
        // The holes of 000 by 1 are 3, 5, 6 and 7: 7 covers all four.
        SlipCovers y = Feeding.of("code a on 2 2 2: 000; code b on 2 2: 00");
        check.fine(y, "the most", y.greedy(0, 1), 1);
        check.codewords(y, "the most", 0, 0, 7);
        // The hole of 00 by 1 is 3; 1, 2 and 3 cover it: the first comes.
        check.fine(y, "of like ones the first", y.greedy(1, 1), 1);
        check.codewords(y, "of like ones the first", 1, 0, 1);
        y.mix(1, 1, 1, 2);
        check.fine(y, "without codewords", y.greedy(1, 0), 4);
        String many = "code a on 3 3 3 3 weigh 1 2 1 2: 0000; code b on 2 2 2 2 2 2 2: 1010101; code c on 4 4 4 4: 0000";
        SlipCovers z = Feeding.of(many);
        Model m = modelOf(many);
        for (int c = 0; c < 3; c++) {
            check.fine(z, "many come", z.greedy(c, 2), m.greedy(c, 2));
            for (int k = 0; k < 40; k++) check.due("codeword " + k, z.word(c, k), m.word(c, k));
        }
        check.of("Promise 29: NONE: 1; 2.");
        check.refused(y, "r", y.greedy(0, 25), 2);
        check.refused(y, "r", y.greedy(0, -1), 2);
        check.refused(y, "code ahead of r", y.greedy(2, 25), 1);
    }

    private static void promise30() {
        check.of("Promise 30: of CODEWORDS, from the last one to the first, each goes that is IDLE then (none IDLE)");
        SlipCovers x = Feeding.of("code a on 2 2 2: 000, 111; code b on 2 2 weigh 3 1: 00, 01; code c on 2 2 2: 000");
        check.fine(x, "none went", x.thin(0, 1), 0);
        check.codewords(x, "nothing changed", 0, 0, 7);
        check.fine(x, "an act that can be undone", x.undo(), 0);
        check.fine(x, "the last went, the first is idle no more", x.thin(1, 1), 1);
        check.codewords(x, "the first stays", 1, 0);
        check.fine(x, "one alone", x.thin(1, 24), 0);
        x.greedy(2, 0);
        check.fine(x, "all but the first", x.thin(2, 3), 7);
        check.codewords(x, "the first", 2, 0);
        // 110 alone covers 110 and more, 001 alone 011 and 101: 000 is the last that is asked, and goes.
        SlipCovers y = Feeding.of("code a on 2 2 2: 000, 001, 110");
        check.fine(y, "the first goes", y.thin(0, 1), 1);
        check.codewords(y, "the first goes", 0, 1, 6);
        check.of("Promise 30: NONE: 1; 2.");
        check.refused(x, "r", x.thin(0, 25), 2);
        check.refused(x, "r", x.thin(0, -1), 2);
        check.refused(x, "code ahead of r", x.thin(3, 25), 1);
    }

    private static void promise31() {
        check.of("Promise 31: as long as by some exchange there are fewer HOLES (no exchange)");
        SlipCovers x = Feeding.of("code a on 2 2 2: 000, 111; code b on 2 2: 00, 01, 10, 11; code c on 2 2: 00; code d on 2 3 4 4: 0000");
        check.fine(x, "no holes", x.better(0, 1), 0);
        check.fine(x, "an act that can be undone", x.undo(), 0);
        check.fine(x, "as many holes by each", x.better(0, 0), 0);
        check.codewords(x, "nothing changed", 0, 0, 7);
        check.fine(x, "no word to come", x.better(1, 0), 0);
        x.set(2, 0, false);
        check.fine(x, "no codeword to go", x.better(2, 0), 0);
        check.of("Promise 31: that by which there are fewest, of like ones the first CODEWORD, then the first WORD");
        SlipCovers y = Feeding.of("code a on 2 2 2: 000, 001; code b on 2 2 2 2: 0000, 0001, 0010, 0100");
        check.fine(y, "000 goes, 110 comes", y.better(0, 1), 1);
        check.codewords(y, "by hand", 0, 1, 6);
        SlipCovers w = Feeding.of("code a on 2 2 2: 110, 111");
        check.fine(w, "110 goes, 000 comes", w.better(0, 1), 1);
        check.codewords(w, "the first word, too", 0, 0, 7);
        String some = "code a on 2 2 2 2: 0000, 0001, 0010, 0100; code b on 3 3 3 3: 0000, 0001, 0002, 2222, 2221, 2220, 1220;"
            + " code c on 3 3 2 4 weigh 1 2 1 2: 2213, 2212, 2211, 2210, 2203; code d on 4 4 4: 333, 332, 331, 330, 323";
        SlipCovers v = Feeding.of(some);
        Model m = modelOf(some);
        for (int r = 1; r < 4; r++) {
            for (int c = 0; c < 4; c++) {
                check.fine(v, "exchanges of " + c + " by " + r, v.better(c, r), m.better(c, r));
                for (int k = 0; k < 8; k++) check.due("codeword " + k, v.word(c, k), m.word(c, k));
            }
            for (int k = 0; k < 4; k++) {
                v.undo();
                m.undo();
            }
        }
        check.of("Promise 31: NONE: 1; 2; 5 (more than 81 WORDS)");
        check.refused(x, "96 words", x.better(3, 1), 5);
        check.refused(x, "r ahead of that", x.better(3, 25), 2);
        check.refused(x, "code ahead of r", x.better(4, 25), 1);
        SlipCovers z = Feeding.of("code a on 3 3 3 3: 0000, 0001");
        check.fine(z, "81 words", z.better(0, 4), 0);
        // The balls of 0000 and 0001 have words in common that those of words farther apart have not.
        check.due("81 words", z.better(0, 2) > 0, true);
    }

    private static void promise32() {
        check.of("Promise 32: NONE: 1 (to 0 .. 7, CODES); 3");
        SlipCovers x = Feeding.of("code a on 4 4: 01, 10; code b on 4 4 weigh 2 2: 33; code c on 2: 0; code d on 2 2 2 2 2: 00000");
        check.fine(x, "just 256 words", x.sum(7, 0, 1), 2);
        check.codewords(x, "just 256 words", 7, 31, 79);
        check.fine(x, "to 0", x.sum(0, 1, 0), 2);
        check.codewords(x, "the other way round", 0, 241, 244);
        check.refused(x, "512 words", x.sum(0, 7, 2), 3);
        check.refused(x, "ten places", x.sum(0, 3, 3), 3);
        for (int to : new int[] {-1, 8, LEAST, MOST}) {
            check.refused(x, "to " + to, x.sum(to, 2, 2), 1);
            check.refused(x, "one " + to, x.sum(0, to, 2), 1);
            check.refused(x, "other " + to, x.sum(0, 2, to), 1);
            check.refused(x, "to ahead of no room", x.sum(to, 7, 7), 1);
        }
        check.refused(x, "one untold", x.sum(0, 5, 2), 1);
        check.refused(x, "other untold", x.sum(0, 2, 5), 1);
        check.fine(x, "with itself, to itself", x.sum(2, 2, 2), 1);
        check.places(x, "with itself, to itself", 2, 2, 1, 2, 1);
    }

    private static void promise33() {
        check.of("Promise 33: NONE: 1 (to, CODES); 5 (these places have not the same SIZE and WEIGHT); 3");
        SlipCovers x = Feeding.of("code a on 3 2 weigh 1 2: 00, 01, 11, 21; code b on 2 4 weigh 2 1: 03, 10, 12; code c on 2 2 weigh 1 1: 00; code d on 4 4 4 4: 0000");
        check.fine(x, "join", x.join(4, 0, 1), 7);
        check.places(x, "join", 4, 3, 1, 2, 2, 4, 1);
        SlipCovers y = Feeding.of("code a on 3 2: 00, 10, 20; code b on 2 2: 00; code c on 2 2: 10, 11");
        check.fine(y, "all end with 0, it begins with 0", y.join(3, 0, 1), 3);
        check.codewords(y, "all end with 0, it begins with 0", 3, 0, 4, 8);
        check.fine(y, "all end with 0, they begin with 1", y.join(3, 0, 2), 0);
        // 00 with 03; 01, 11, 21 with 10 and 12.
        check.codewords(x, "join", 4, 3, 4, 6, 12, 14, 20, 22);
        check.refused(x, "unlike sizes", x.join(4, 1, 0), 5);
        check.refused(x, "unlike weights", x.join(4, 0, 2), 5);
        check.refused(x, "unlike both", x.join(4, 0, 3), 5);
        check.refused(x, "unlike ahead of no room", x.join(4, 3, 0), 5);
        check.refused(x, "no room", x.join(4, 3, 3), 3);
        check.refused(x, "1024 words", x.join(4, 1, 3), 3);
        check.refused(x, "to ahead of these", x.join(8, 3, 0), 1);
        check.refused(x, "code ahead of these", x.join(4, 5, 0), 1);
        check.refused(x, "code ahead of these", x.join(4, 3, 5), 1);
        check.of("Promise 33: the last place of one CODE is the first one of the other one (of one place alone)");
        check.fine(x, "one place", x.shorter(5, 2, 0, 0), 1);
        check.fine(x, "behind it", x.join(6, 5, 2), 1);
        check.fine(x, "as the other", x.same(6, 2), 1);
        check.fine(x, "ahead of it", x.join(6, 2, 5), 1);
        check.fine(x, "as the one", x.same(6, 2), 1);
        check.due("turned", x.shift(6, 5, 0, 1), true);
        check.fine(x, "no digit in common", x.join(6, 6, 2), 0);
        check.fine(x, "an empty code all the same", x.about(6, 1), 4);
    }

    private static void promise34() {
        check.of("Promise 34: NONE: 1 (to, CODE); 2 (SIZE, WEIGHT); 3");
        SlipCovers x = Feeding.of("code a on 4 4 4: 000, 333; code b on 2 2 2 2 2 2 2 2: 11111111; code c on 3 3 3 3: 0000");
        for (int size : new int[] {-1, 0, 1, 5, LEAST, MOST}) {
            check.refused(x, "size " + size, x.longer(3, 0, size, 1), 2);
            check.refused(x, "size ahead of no room", x.longer(3, 1, size, 1), 2);
            check.refused(x, "code ahead of size", x.longer(3, 3, size, 1), 1);
        }
        for (int weight : new int[] {-1, 0, 4, LEAST, MOST}) {
            check.refused(x, "weight " + weight, x.longer(3, 0, 2, weight), 2);
            check.refused(x, "weight ahead of no room", x.longer(3, 1, 2, weight), 2);
            check.refused(x, "to ahead of weight", x.longer(8, 0, 2, weight), 1);
        }
        check.refused(x, "a ninth place", x.longer(3, 1, 2, 1), 3);
        check.refused(x, "324 words", x.longer(3, 2, 4, 1), 3);
        check.fine(x, "243 words", x.longer(3, 2, 3, 1), 3);
        check.fine(x, "256 words", x.longer(3, 0, 4, 3), 8);
        check.codewords(x, "each with each digit", 3, 0, 1, 2, 3, 252, 253, 254, 255);
        check.refused(x, "512 words", x.longer(0, 3, 2, 1), 3);
        check.fine(x, "to itself", x.longer(0, 0, 2, 1), 4);
        check.codewords(x, "to itself", 0, 0, 1, 126, 127);
    }

    private static void promise35() {
        check.of("Promise 35: NONE: 1 (to, CODE, place); 2 (digit); 5 (it has one place alone)");
        SlipCovers x = Feeding.of("code a on 3 2: 00, 11, 20; code b on 4: 3");
        check.refused(x, "one place", x.shorter(2, 1, 0, 3), 5);
        check.refused(x, "digit ahead of that", x.shorter(2, 1, 0, 4), 2);
        check.refused(x, "digit ahead of that", x.shorter(2, 1, 0, -1), 2);
        check.refused(x, "place ahead of that", x.shorter(2, 1, 1, 4), 1);
        check.refused(x, "digit", x.shorter(2, 0, 0, 3), 2);
        check.refused(x, "digit", x.shorter(2, 0, 1, 2), 2);
        check.refused(x, "place ahead of digit", x.shorter(2, 0, 2, 4), 1);
        check.refused(x, "place ahead of digit", x.shorter(2, 0, -1, 4), 1);
        check.refused(x, "to ahead of digit", x.shorter(8, 0, 0, 3), 1);
        check.fine(x, "two places", x.shorter(2, 0, 0, 2), 1);
        check.places(x, "one is left", 2, 2, 1);
        check.codewords(x, "one is left", 2, 0);
        check.refused(x, "one place", x.shorter(2, 2, 0, 0), 5);
        check.fine(x, "the last place", x.shorter(2, 0, 1, 0), 2);
        check.codewords(x, "the last place", 2, 0, 2);
        check.fine(x, "one has it", x.shorter(2, 0, 0, 1), 1);
        x.set(0, 3, false);
        check.fine(x, "none have it", x.shorter(2, 0, 0, 1), 0);
        check.fine(x, "to itself", x.shorter(0, 0, 0, 2), 1);
        check.places(x, "to itself", 0, 2, 1);
        SlipCovers y = Feeding.of("code a on 2 2 2: 010, 110");
        check.fine(y, "another digit there", y.shorter(1, 0, 1, 0), 0);
        check.fine(y, "that digit there", y.shorter(1, 0, 1, 1), 2);
        check.codewords(y, "that digit there", 1, 0, 2);
    }

    private static void promise36() {
        check.of("Promise 36: two places (also the same) change");
        SlipCovers x = Feeding.of("code a on 3 2 4 weigh 1 2 3: 013, 112, 210");
        for (int i = 0; i < 3; i++) {
            check.due("the same", x.swap(1, 0, i, i), true);
            check.due("no trouble", x.trouble(), 0);
            check.fine(x, "as it was", x.same(0, 1), 1);
        }
        check.due("to itself", x.swap(0, 0, 2, 2), true);
        check.fine(x, "an act that can be undone", x.undo(), 3);
        check.due("the first and the last", x.swap(2, 0, 0, 2), true);
        check.places(x, "changed", 2, 4, 3, 2, 2, 3, 1);
        check.codewords(x, "310, 211, 012", 2, 5, 16, 21);
        check.due("the last and the first", x.swap(3, 0, 2, 0), true);
        check.fine(x, "are the same", x.same(2, 3), 1);
        x.set(0, 0, true);
        check.due("the first word, too", x.swap(2, 0, 0, 2), true);
        check.codewords(x, "the first word, too", 2, 0, 5, 16, 21);
        check.of("Promise 36: false: 1 (to, CODE, places)");
        for (int i : new int[] {-1, 3, 8, LEAST, MOST}) {
            check.refused(x, "place " + i, x.swap(1, 0, i, 0), 1);
            check.refused(x, "place " + i, x.swap(1, 0, 0, i), 1);
            check.refused(x, "both " + i, x.swap(1, 0, i, i), 1);
        }
        for (int c : new int[] {-1, 8, LEAST, MOST}) {
            check.refused(x, "to " + c, x.swap(c, 0, 0, 1), 1);
            check.refused(x, "code " + c, x.swap(0, c, 0, 1), 1);
        }
        check.refused(x, "code untold", x.swap(0, 5, 0, 1), 1);
    }

    private static void promise37() {
        check.of("Promise 37: the digit of a place is k (0 .. 3) more, round by its SIZE");
        SlipCovers x = Feeding.of("code a on 2: 1; code b on 3: 1, 2; code c on 4: 3");
        int[][] want = {{1, 0, 1, 0}, {1, 0, 0, 1}, {3, 0, 1, 2}};
        for (int c = 0; c < 3; c++) {
            for (int k = 0; k < 4; k++) {
                check.due("shift by " + k, x.shift(4, c, 0, k), true);
                check.due("no trouble", x.trouble(), 0);
                check.fine(x, "size " + (c + 2) + " by " + k, x.word(4, 0), want[c][k]);
                check.fine(x, "as many", x.about(4, 2), c == 1 ? 2 : 1);
            }
        }
        check.fine(x, "2 and 0 by 1", x.shift(4, 1, 0, 1) ? 1 : 0, 1);
        check.codewords(x, "1 and 2 are 2 and 0", 4, 0, 2);
        SlipCovers y = Feeding.of("code a on 2 3 4: 000, 020, 123");
        check.due("the first place", y.shift(1, 0, 0, 1), true);
        check.codewords(y, "100, 120, 023", 1, 11, 12, 20);
        check.due("the middle place", y.shift(1, 0, 1, 1), true);
        check.codewords(y, "010, 000, 103", 1, 0, 4, 15);
        check.due("the last place", y.shift(1, 0, 2, 3), true);
        check.codewords(y, "003, 023, 122", 1, 3, 11, 22);
        check.of("Promise 37: false: 1 (to, CODE, place); 2");
        for (int k : new int[] {-1, 4, LEAST, MOST}) {
            check.refused(x, "k " + k, x.shift(4, 2, 0, k), 2);
            check.refused(x, "place ahead of k", x.shift(4, 2, 1, k), 1);
            check.refused(x, "code ahead of k", x.shift(4, 5, 0, k), 1);
            check.refused(x, "to ahead of k", x.shift(8, 2, 0, k), 1);
        }
    }

    private static void promise38() {
        check.of("Promise 38: NONE: 1 (to, CODES, what); 5 (their SPACES aren't the same)");
        SlipCovers x = Feeding.of("code a on 2 3: 00, 12; code b on 3 2: 00; code c on 2 3 weigh 1 2: 00; code d on 2 3: 00");
        for (int what = 0; what < 3; what++) {
            check.refused(x, "sizes in another order", x.mix(4, 0, 1, what), 5);
            check.refused(x, "other weights", x.mix(4, 0, 2, what), 5);
        }
        check.fine(x, "longer", x.longer(5, 3, 2, 1), 2);
        check.refused(x, "more places", x.mix(4, 0, 5, 0), 5);
        check.refused(x, "fewer places", x.mix(4, 5, 0, 0), 5);
        for (int what : new int[] {-1, 3, LEAST, MOST}) {
            check.refused(x, "what " + what, x.mix(4, 0, 3, what), 1);
            check.refused(x, "what ahead of the spaces", x.mix(4, 0, 1, what), 1);
        }
        check.refused(x, "to ahead of the spaces", x.mix(8, 0, 1, 0), 1);
        check.refused(x, "one", x.mix(4, 6, 3, 0), 1);
        check.refused(x, "other", x.mix(4, 0, 6, 0), 1);
        SlipCovers y = Feeding.of("code a on 2 3 4: 000; code b on 3 3 4: 000; code c on 2 3 2: 000; code d on 2 3 4 weigh 2 1 1: 000");
        check.refused(y, "the first size", y.mix(4, 0, 1, 0), 5);
        check.refused(y, "the last size", y.mix(4, 0, 2, 0), 5);
        check.refused(y, "the first weight", y.mix(4, 0, 3, 0), 5);
        check.refused(y, "the first weight", y.mix(4, 3, 0, 0), 5);
        check.fine(x, "either", x.mix(4, 0, 3, 0), 2);
        check.fine(x, "both", x.mix(4, 0, 3, 1), 1);
        check.codewords(x, "both", 4, 0);
        check.fine(x, "the one alone", x.mix(4, 0, 3, 2), 1);
        check.codewords(x, "the one alone", 4, 5);
        check.fine(x, "the other way round none", x.mix(4, 3, 0, 2), 0);
        check.fine(x, "with itself", x.mix(4, 0, 0, 0), 2);
        check.fine(x, "with itself", x.mix(4, 0, 0, 1), 2);
        check.fine(x, "with itself", x.mix(4, 0, 0, 2), 0);
    }

    private static void promise39() {
        check.of("Promise 39: a CODE of the same SPACE, of its HOLES: how many (none, all)");
        SlipCovers x = Feeding.of("code a on 2 2 2 weigh 1 2 3: 000");
        check.fine(x, "none", x.holes(1, 0, 6), 0);
        check.places(x, "the same space", 1, 2, 1, 2, 2, 2, 3);
        check.fine(x, "all of an empty one", x.holes(1, 1, 24), 8);
        check.fine(x, "one", x.holes(7, 0, 5), 1);
        check.codewords(x, "one", 7, 7);
        check.fine(x, "to itself", x.holes(0, 0, 0), 7);
        check.of("Promise 39: NONE: 1 (to, CODE); 2");
        check.refused(x, "r", x.holes(1, 0, 25), 2);
        check.refused(x, "r", x.holes(1, 0, -1), 2);
        check.refused(x, "to ahead of r", x.holes(8, 0, 25), 1);
        check.refused(x, "code ahead of r", x.holes(1, 3, 25), 1);
    }

    private static void promise40() {
        check.of("Promise 40: NONE: 5 (nothing left to undo)");
        SlipCovers x = new SlipCovers();
        check.refused(x, "a new object", x.undo(), 5);
        Feeding.text(x, "code a on 2 2: 00");
        check.refused(x, "a text is no act", x.undo(), 5);
        x.set(0, 1, true);
        check.fine(x, "the one act", x.undo(), 0);
        check.refused(x, "nothing left", x.undo(), 5);
        check.refused(x, "nothing left still", x.undo(), 5);
        check.codewords(x, "as it was", 0, 0);
        check.of("Promise 40: The latest ACT is undone (a CODE that wasn't there ahead of it is none again)");
        x.sum(3, 0, 0);
        x.join(4, 0, 0);
        x.longer(5, 0, 2, 1);
        x.shorter(6, 0, 0, 0);
        x.swap(7, 0, 0, 1);
        x.shift(1, 0, 0, 1);
        x.mix(2, 0, 0, 0);
        int[] made = {3, 4, 5, 6, 7, 1, 2};
        for (int k = made.length - 1; k >= 0; k--) {
            check.due("made", x.about(made[k], 0) > 0, true);
            check.fine(x, "undo", x.undo(), k);
            check.refused(x, "none again", x.about(made[k], 0), 1);
        }
        x.holes(3, 0, 0);
        x.set(3, 0, true);
        check.fine(x, "one of two", x.undo(), 1);
        check.codewords(x, "still there", 3, 1, 2, 3);
        check.fine(x, "the other", x.undo(), 0);
        check.refused(x, "none again", x.about(3, 0), 1);
        check.of("Promise 40: an ACT undone is none that can be undone");
        x.greedy(0, 0);
        x.thin(0, 2);
        x.better(0, 0);
        for (int k = 2; k >= 0; k--) check.fine(x, "undo", x.undo(), k);
        check.refused(x, "nothing left", x.undo(), 5);
        check.codewords(x, "as it was", 0, 0);
    }

    // ---- what is told

    private static void promise41() {
        check.of("Promise 41: 1 if two CODES have the same SIZES, WEIGHTS, and CODEWORDS, 0. NONE: 1.");
        SlipCovers x = Feeding.of("code a on 2 4: 00; code b on 2 4: 00; code c on 4 2: 00; code d on 2 4 weigh 1 3: 00");
        check.fine(x, "with itself", x.same(0, 0), 1);
        check.fine(x, "alike", x.same(0, 1), 1);
        check.fine(x, "other sizes", x.same(0, 2), 0);
        check.fine(x, "other weights", x.same(0, 3), 0);
        x.set(1, 7, true);
        check.fine(x, "one codeword more", x.same(0, 1), 0);
        check.fine(x, "one codeword less", x.same(1, 0), 0);
        x.set(1, 0, false);
        check.fine(x, "another codeword", x.same(0, 1), 0);
        x.longer(4, 0, 2, 1);
        check.fine(x, "more places", x.same(0, 4), 0);
        x.mix(4, 0, 0, 2);
        x.mix(5, 1, 1, 2);
        check.fine(x, "both empty", x.same(4, 5), 1);
        x.greedy(4, 0);
        x.greedy(5, 0);
        check.fine(x, "both full", x.same(4, 5), 1);
        for (int c : new int[] {-1, 6, 8, LEAST, MOST}) {
            check.refused(x, "one " + c, x.same(c, 0), 1);
            check.refused(x, "other " + c, x.same(0, c), 1);
            check.refused(x, "both " + c, x.same(c, c), 1);
        }
        SlipCovers z = Feeding.of("code a on 2 3 4: 000; code b on 3 3 4: 000; code c on 2 3 2: 000; code d on 2 3 4 weigh 2 1 1: 000");
        check.fine(z, "the first size", z.same(0, 1), 0);
        check.fine(z, "the last size", z.same(0, 2), 0);
        check.fine(z, "the first weight", z.same(0, 3), 0);
        SlipCovers y = Feeding.of("code a on 4 4 4 4: 0000; code b on 4 4 4 4: 0000");
        for (int w : new int[] {63, 64, 127, 128, 191, 192, 255}) {
            y.set(0, w, true);
            check.fine(y, "word " + w, y.same(0, 1), 0);
            y.set(1, w, true);
            check.fine(y, "word " + w, y.same(0, 1), 1);
        }
    }

    private static void promise42() {
        check.of("Promise 42: Letter k (0 a, ..) of the NAME of a CODE of the TEXT");
        SlipCovers x = Feeding.of("code a on 2: 0; code z on 2: 0; code azbycx on 2: 0; code qq on 2: 0");
        check.due("a", x.letter(0, 0), 0);
        check.due("z", x.letter(1, 0), 25);
        int[] six = {0, 25, 1, 24, 2, 23};
        for (int k = 0; k < 6; k++) check.due("letter " + k, x.letter(2, k), six[k]);
        check.due("q", x.letter(3, 1), 16);
        check.of("Promise 42: NoSuchElementException if there is none such");
        int[][] none = {{0, 1}, {0, -1}, {1, 1}, {2, 6}, {2, 7}, {3, 2}, {4, 0}, {7, 0}, {8, 0}, {-1, 0},
            {LEAST, 0}, {MOST, 0}, {0, LEAST}, {0, MOST}, {0, 32}, {2, 32}, {-1, -1}};
        for (int[] n : none) check.due("letter " + n[0] + " " + n[1], throwsAt(x, n[0], n[1]), true);
        int[] lengths = {1, 1, 6, 2};
        for (int c = 0; c < 4; c++) {
            for (int k = -7; k < 40; k++) check.due("letter " + c + " " + k, throwsAt(x, c, k), k < 0 || k >= lengths[c]);
        }
        check.due("a new object", throwsAt(new SlipCovers(), 0, 0), true);
        x.sum(4, 0, 1);
        check.due("a code that an act made has no name", throwsAt(x, 4, 0), true);
        x.undo();
        x.set(0, 1, true);
        check.due("a code that an act changed keeps its own", x.letter(0, 0), 0);
        check.of("Promise 42: NAMES behind a TEXT refused, and behind another");
        Feeding.text(x, "code mm on 2: 0; code m on 9");
        check.due("refused", x.letter(1, 0), 25);
        check.due("refused", throwsAt(x, 0, 1), true);
        x.text(1);
        check.due("refused by 2", x.letter(3, 0), 16);
        Feeding.text(x, "code mm on 2: 0");
        check.due("another", x.letter(0, 1), 12);
        check.due("no longer", throwsAt(x, 1, 0), true);
        promise42BehindActs();
        check.of("Promise 42: it can't be refused: trouble() and where() stay");
        check.faulty(x, "code n on 9", 2, 10);
        check.due("letter", x.letter(0, 0), 12);
        check.due("none such", throwsAt(x, 1, 0), true);
        check.due("trouble", x.trouble(), 4);
        check.due("where", x.where(), 10);
    }

    /** A reading of the words: the TEXT has its NAMES until there is another, whatever acts bring to the slots. */
    private static void promise42BehindActs() {
        check.of("Promise 42: the NAME of a CODE of the TEXT, behind acts and undo");
        SlipCovers x = Feeding.of("code k on 2: 0; code bc on 3 3: 12");
        x.sum(0, 1, 1);
        check.due("another code is in slot 0", x.letter(0, 0), 10);
        x.swap(1, 0, 0, 3);
        check.due("another code is in slot 1", x.letter(1, 1), 2);
        check.due("its name has two letters", throwsAt(x, 1, 2), true);
        x.holes(2, 1, 0);
        check.due("slot 2, told by no text", throwsAt(x, 2, 0), true);
        for (int k = 0; k < 3; k++) {
            x.undo();
            check.due("slot 0, acts undone", x.letter(0, 0), 10);
            check.due("slot 1, acts undone", x.letter(1, 0), 1);
            check.due("slot 2, acts undone", throwsAt(x, 2, 0), true);
        }
    }

    private static void promise43and44() {
        check.of("Promise 43: Bytes of THE TAPE (none, 600)");
        SlipCovers x = new SlipCovers();
        check.due("none", x.bytes(), 0);
        for (int k = 1; k <= 31; k++) {
            x.feed(0, 0, 0, 0, 0);
            check.due("bytes", x.bytes(), Math.min(20 * k, 600));
        }
        x.text(601);
        check.due("refused by 2", x.bytes(), 600);
        x.text(0);
        check.due("refused by 4", x.bytes(), 0);
        check.of("Promise 44: TROUBLE of the latest call that may be refused: 0 it wasn't");
        x = Feeding.of("code a on 2 2 2 2 2 2 2 2: 00000000");
        check.due("sound text", x.trouble(), 0);
        x.about(1, 0);
        check.due("1", x.trouble(), 1);
        x.ball(0, -1);
        check.due("2", x.trouble(), 2);
        x.longer(1, 0, 2, 1);
        check.due("3", x.trouble(), 3);
        Feeding.text(x, "code");
        check.due("4", x.trouble(), 4);
        x.undo();
        check.due("5", x.trouble(), 5);
        x.trouble();
        x.where();
        x.fault();
        x.bytes();
        throwsAt(x, 5, 5);
        x.feed(0, 0, 0, 0, 0);
        check.due("calls that can't be refused leave it", x.trouble(), 5);
        x.word(0, 1);
        check.due("-2 is no refusal", x.trouble(), 0);
        x.undo();
        x.swap(1, 0, 0, 0);
        check.due("nor is true", x.trouble(), 0);
        x.swap(8, 0, 0, 0);
        check.due("false is", x.trouble(), 1);
        x.undo();
        check.due("an act undone", x.trouble(), 0);
    }
}
