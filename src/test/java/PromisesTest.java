import java.util.NoSuchElementException;

/** Each promise by its number: ordinary inputs, the edges that the document names, wrong inputs. */
public final class PromisesTest {
    /** Codes 0 (2 2 2: 000, 111) and 1 (3 2 with weights 2 1: 00, 11). */
    private static final String TWO = "code a on 2 2 2: 000, 111; code bz on 3 2 weigh 2 1: 00, 11";

    private static int wrong = 0;
    private static int promise = 0;

    private static void due(String what, long got, long want) {
        if (got != want) {
            wrong++;
            System.out.println("promise " + promise + ": " + what + " answered " + got + ", due is " + want);
        }
    }

    private static void due(String what, boolean got, boolean want) {
        due(what, got ? 1 : 0, want ? 1 : 0);
    }

    /** The call behind the answer was refused by a number. */
    private static void refused(SlipCovers x, String what, int got, int number) {
        due(what, got, -1);
        due(what + " trouble", x.trouble(), number);
        due(what + " where", x.where(), -1);
    }

    private static void refused(SlipCovers x, String what, boolean got, int number) {
        refused(x, what, got ? 1 : -1, number);
    }

    private static void codewords(SlipCovers x, String what, int c, int... words) {
        due(what + " codewords", x.about(c, 2), words.length);
        for (int k = 0; k < words.length; k++) due(what + " codeword " + k, x.word(c, k), words[k]);
    }

    private static void places(SlipCovers x, String what, int c, int... sizesAndWeights) {
        due(what + " places", x.about(c, 0), sizesAndWeights.length / 2);
        for (int k = 0; k < sizesAndWeights.length; k++) {
            due(what + " place " + k / 2, x.place(c, k / 2, k % 2), sizesAndWeights[k]);
        }
    }

    public static void main(String[] args) {
        texts();
        words();
        covers();
        fewest();
        acts();
        told();
        System.out.println(wrong == 0 ? "all promises are kept" : wrong + " answers are not as due");
        if (wrong != 0) System.exit(1);
    }

    // ---- texts: promises 1 to 5

    private static void texts() {
        promise = 1;
        SlipCovers x = new SlipCovers();
        due("trouble", x.trouble(), 0);
        due("where", x.where(), -1);
        due("fault", x.fault(), 0);
        due("bytes", x.bytes(), 0);
        for (int c = -1; c <= 8; c++) refused(x, "about " + c, x.about(c, 0), 1);
        due("NONE", SlipCovers.NONE, -1);
        promise2();
        promise3();
        faults();
        promise4and5();
    }

    private static void promise2() {
        promise = 2;
        SlipCovers x = new SlipCovers();
        x.undo();
        for (int k = 1; k <= 30; k++) due("feed", x.feed(0x636f6465, 0x20612020, 0, -1, 0x80ff7f01), 20 * k);
        due("feed too many", x.feed(1, 2, 3, 4, 5), -1);
        due("trouble stays", x.trouble(), 5);
        due("bytes", x.bytes(), 600);
        // The highest byte first: code, then the name a, then byte 0 at 8.
        due("text", x.text(600), -1);
        due("fault", x.fault(), 1);
        due("where", x.where(), 8);
        due("feed keeps where", x.feed(0, 0, 0, 0, 0), 20);
        due("where", x.where(), 8);
        due("trouble", x.trouble(), 4);
    }

    private static void promise3() {
        promise = 3;
        SlipCovers x = new SlipCovers();
        refused(x, "more than there are", x.text(1), 2);
        refused(x, "below 0", x.text(-1), 2);
        Feeding.feed(x, TWO);
        refused(x, "more than there are", x.text(61), 2);
        due("the tape stays", x.bytes(), 60);
        due("text", x.text(TWO.length()), 2);
        due("the tape is empty", x.bytes(), 0);
        due("trouble", x.trouble(), 0);
        places(x, "text", 0, 2, 1, 2, 1, 2, 1);
        places(x, "text", 1, 3, 2, 2, 1);
        codewords(x, "text", 0, 0, 7);
        codewords(x, "text", 1, 0, 3);
        due("an act", x.longer(7, 0, 2, 1), 4);
        due("a text with a fault", Feeding.text(x, "code"), -1);
        due("changes no code", x.about(7, 1), 16);
        due("nor that", x.undo(), 0);
        x.sum(7, 0, 0);
        due("others are gone", Feeding.text(x, "code x on 4:3,0"), 1);
        refused(x, "gone", x.about(1, 0), 1);
        refused(x, "gone", x.about(7, 0), 1);
        refused(x, "a text leaves no acts", x.undo(), 5);
        codewords(x, "in order", 0, 0, 3);
        due("without blanks", Feeding.text(x, "code abcdef on2 3 weigh1 3:02,10;code on b"), -1);
        due("where", x.where(), 38);
        due("without blanks", Feeding.text(x, "code abcdef on2 3 weigh1 3:02,10;code b on 2:0"), 2);
        codewords(x, "", 0, 2, 3);
        due("many blanks", Feeding.text(x, "   code  a  on  2  3  weigh  1  2  :  11  ,  00   "), 1);
        due("four", Feeding.text(x, "code a on 2:0;code b on 2:0;code c on 2:0;code d on 4:3"), 4);
        due("eight places", Feeding.text(x, "code a on 2 2 2 2 2 2 2 2:11111111,00000001"), 1);
        codewords(x, "eight", 0, 1, 255);
        due("four by four", Feeding.text(x, "code a on 4 4 4 4 weigh 3 3 3 3: 3210"), 1);
        codewords(x, "four", 0, 228);
        due("less of the tape", Feeding.feed(x, "code a on 2: 1, 1"), 20);
        due("less of the tape", x.text(14), 1);
        due("all of it is gone", x.bytes(), 0);
    }

    private static void fault(String text, int fault, int where) {
        SlipCovers x = Feeding.of(TWO);
        due("[" + text + "]", Feeding.text(x, text), -1);
        due("[" + text + "] trouble", x.trouble(), 4);
        due("[" + text + "] fault", x.fault(), fault);
        due("[" + text + "] where", x.where(), where);
        due("[" + text + "] tape", x.bytes(), 0);
        due("[" + text + "] codes", x.about(1, 1), 6);
    }

    private static void faults() {
        // 1: bytes that begin no token, and too many that stand together
        fault("", 1, 0);
        fault("   ", 1, 3);
        fault("Code a on 2: 0", 1, 0);
        fault("code a on 2: 0.", 1, 14);
        fault("code a on 2: 0\u00e9", 1, 14);
        fault("code \u0000 on 2: 0", 1, 5);
        fault("code a\ton 2: 0", 1, 6);
        fault("code `", 1, 5);
        fault("code {", 1, 5);
        fault("code /", 1, 5);
        fault("code abcdefg on 2: 0", 1, 5);
        fault("codeaon 2: 0", 1, 0);
        fault("code a on 2 2 2 2 2 2 2 2: 000000000", 1, 27);
        fault("code a on 222222222: 0", 1, 10);
        fault("code a on 22222222: 0", 2, 10);
        // 1: tokens with which no text goes on
        fault("on", 1, 0);
        fault("2", 1, 0);
        fault("; code a on 2: 0", 1, 0);
        fault("codes a on 2: 0", 1, 0);
        fault("code", 1, 4);
        fault("code code on 2: 0", 1, 5);
        fault("code on on 2: 0", 1, 5);
        fault("code weigh on 2: 0", 1, 5);
        fault("code 2 on 2: 0", 1, 5);
        fault("code a  ", 1, 8);
        fault("code a 2: 0", 1, 7);
        fault("code a no 2: 0", 1, 7);
        fault("code a on", 1, 9);
        fault("code a on weigh 1: 0", 1, 10);
        fault("code a on : 0", 1, 10);
        fault("code a on 2 , 0", 1, 12);
        fault("code a on 2 on", 1, 12);
        fault("code a on 2 ;", 1, 12);
        fault("code a on 2", 1, 11);
        fault("code a on 2 weigh", 1, 17);
        fault("code a on 2 weigh : 0", 1, 18);
        fault("code a on 2 2 weigh 1 : 00", 1, 22);
        fault("code a on 2 2 weigh 1", 1, 21);
        fault("code a on 2 2 weigh 1 , 00", 1, 22);
        fault("code a on 2 2 weigh 1 weigh 1 : 00", 1, 22);
        fault("code a on 2 2 weigh 1 1 1 : 00", 1, 24);
        fault("code a on 2 2 weigh 1 1 9 : 00", 1, 24);
        fault("code a on 2 2 weigh 1 1 weigh : 00", 1, 24);
        fault("code a on 2 2 weigh 1 1", 1, 23);
        fault("code a on 2 :", 1, 13);
        fault("code a on 2 : a", 1, 14);
        fault("code a on 2 : , 0", 1, 14);
        fault("code a on 2 : ; code", 1, 14);
        fault("code a on 2 : 0 1", 1, 16);
        fault("code a on 2 : 0 : 1", 1, 16);
        fault("code a on 2 : 0 code", 1, 16);
        fault("code a on 2 : 0 ,", 1, 17);
        fault("code a on 2 : 0 , ;", 1, 18);
        fault("code a on 2 : 0 ;", 1, 17);
        fault("code a on 2 : 0 ; ;", 1, 18);
        // 2: runs that are no size, no weight, no word
        fault("code a on 1: 0", 2, 10);
        fault("code a on 5: 0", 2, 10);
        fault("code a on 02: 0", 2, 10);
        fault("code a on 2 0", 2, 12);
        fault("code a on 2 weigh 0: 0", 2, 18);
        fault("code a on 2 weigh 4: 0", 2, 18);
        fault("code a on 2 weigh 01: 0", 2, 18);
        fault("code a on 2 3: 0", 2, 15);
        fault("code a on 2 3: 000", 2, 15);
        fault("code a on 2 3: 12, 20", 2, 19);
        fault("code a on 2 3: 13", 2, 15);
        fault("code a on 2 3: 13 x", 2, 15);
        // 3: told again
        fault("code a on 2: 0; code b on 2: 0; code a", 3, 37);
        fault("code a on 2 2: 01, 10, 01", 3, 23);
        // 4: too many
        fault("code a on 2:0;code b on 2:0;code c on 2:0;code d on 2:0;code", 4, 56);
        fault("code a on 2:0;code b on 2:0;code c on 2:0;code d on 2:0;on", 1, 56);
        fault("code a on 2:0;code b on 2:0;code c on 2:0;code d on 2:0;", 1, 56);
        fault("code a on 2 2 2 2 2 2 2 2 2: 0", 4, 26);
        fault("code a on 2 2 2 2 2 2 2 2 5: 0", 2, 26);
        fault("code a on 4 4 4 4 2: 0", 4, 18);
        fault("code a on 4 4 4 3 2: 0", 4, 18);
        fault("code a on 3 3 3 3 4: 0", 4, 18);
        // the first from the left
        fault("code a on 2 9 #", 2, 12);
        fault("code a on 2 # 9", 1, 12);
        // the same codeword in two lines, a name with the same beginning
        SlipCovers x = new SlipCovers();
        due("no fault", Feeding.text(x, "code ab on 2: 0; code a on 2: 0; code abc on 2: 0; code b on 2: 0"), 4);
    }

    private static void promise4and5() {
        promise = 4;
        SlipCovers x = new SlipCovers();
        due("ahead of any", x.fault(), 0);
        Feeding.text(x, "code a on 7");
        due("a fault", x.fault(), 2);
        x.text(1);
        due("refused by 2", x.fault(), 2);
        Feeding.text(x, "code a on 2: 0");
        due("none", x.fault(), 0);
        Feeding.text(x, "code a on 2: 0, 0");
        due("again", x.fault(), 3);
        x.about(0, 0);
        due("stays", x.fault(), 3);
        promise = 5;
        due("behind another call", x.where(), -1);
        Feeding.text(x, "code a on 2: 0, 0");
        due("place", x.where(), 16);
        x.feed(0, 0, 0, 0, 0);
        x.fault();
        x.bytes();
        x.trouble();
        due("these aren't refused", x.where(), 16);
        throwsAt(x, 4, 0);
        due("nor is letter", x.where(), 16);
        x.text(21);
        due("refused by 2", x.where(), -1);
        Feeding.text(x, "");
        x.undo();
        due("refused by 5", x.where(), -1);
    }

    // ---- words: promises 6 to 13

    private static void words() {
        SlipCovers x = Feeding.of(TWO + "; code c on 3 4 2 weigh 1 3 2: 231, 000, 100");
        promise = 6;
        int[][] want = {{3, 8, 2, 3, 1, 3}, {2, 6, 2, 3, 2, 3}, {3, 24, 3, 6, 4, 1}};
        for (int c = 0; c < 3; c++) for (int k = 0; k < 6; k++) due("about " + c + " " + k, x.about(c, k), want[c][k]);
        refused(x, "what", x.about(0, 6), 1);
        refused(x, "what", x.about(0, -1), 1);
        for (int c : new int[] {-1, 3, 7, 8, Integer.MAX_VALUE, Integer.MIN_VALUE}) refused(x, "code", x.about(c, 0), 1);
        x.set(0, 0, false);
        due("apart of one", x.about(0, 5), -2);
        due("radius of one", x.about(0, 4), 3);
        x.set(0, 7, false);
        due("radius of none", x.about(0, 4), -2);
        due("no trouble", x.trouble(), 0);
        due("apart of none", x.about(0, 5), -2);
        due("greatest of none", x.about(0, 3), 3);
        x.undo();
        x.undo();
        promise = 7;
        places(x, "place", 2, 3, 1, 4, 3, 2, 2);
        refused(x, "code", x.place(3, 0, 0), 1);
        refused(x, "place", x.place(2, 3, 0), 1);
        refused(x, "place", x.place(2, -1, 0), 1);
        refused(x, "what", x.place(2, 0, 2), 1);
        refused(x, "what", x.place(2, 0, -1), 1);
        promise = 8;
        codewords(x, "word", 2, 0, 8, 23);
        due("not so many", x.word(2, 3), -2);
        due("not so many", x.word(2, Integer.MAX_VALUE), -2);
        due("no trouble", x.trouble(), 0);
        refused(x, "k", x.word(2, -1), 1);
        refused(x, "code", x.word(-1, 0), 1);
        promise = 9;
        due("has", x.has(2, 23), 1);
        due("has", x.has(2, 22), 0);
        refused(x, "word", x.has(2, 24), 1);
        refused(x, "word", x.has(2, -1), 1);
        refused(x, "code", x.has(8, 0), 1);
        promise = 10;
        int[] digits = {1, 3, 0};
        for (int i = 0; i < 3; i++) due("digit " + i, x.digit(2, 14, i), digits[i]);
        refused(x, "place", x.digit(2, 14, 3), 1);
        refused(x, "place", x.digit(2, 14, -1), 1);
        refused(x, "word", x.digit(2, 24, 0), 1);
        refused(x, "word", x.digit(2, -1, 0), 1);
        refused(x, "code", x.digit(4, 0, 0), 1);
        promise = 11;
        due("far", x.far(2, 0, 23), 6);
        due("far", x.far(2, 0, 14), 4);
        due("far", x.far(2, 14, 0), 4);
        due("far", x.far(2, 2, 3), 2);
        due("far", x.far(2, 6, 2), 3);
        due("far", x.far(2, 9, 9), 0);
        refused(x, "word", x.far(2, 24, 0), 1);
        refused(x, "word", x.far(2, 0, 24), 1);
        refused(x, "word", x.far(2, -1, 0), 1);
        refused(x, "word", x.far(2, 0, -1), 1);
        refused(x, "code", x.far(5, 0, 0), 1);
        balls(x);
    }

    private static void balls(SlipCovers x) {
        promise = 12;
        // 1 of weight 1 (2 more), weight 2 (1 more), weight 3 (3 more): by r
        int[] sizes = {1, 3, 4, 9, 15, 18, 24};
        for (int r = 0; r < sizes.length; r++) due("ball " + r, x.ball(2, r), sizes[r]);
        due("ball", x.ball(2, 24), 24);
        refused(x, "r", x.ball(2, 25), 2);
        refused(x, "r", x.ball(2, -1), 2);
        refused(x, "code before r", x.ball(3, 25), 1);
        promise = 13;
        int[] ball = {6, 14, 15, 22};
        for (int k = 0; k < 4; k++) due("ballAt " + k, x.ballAt(2, 14, 2, k), ball[k]);
        due("not so many", x.ballAt(2, 14, 2, 4), -2);
        due("no trouble", x.trouble(), 0);
        due("itself", x.ballAt(2, 14, 0, 0), 14);
        refused(x, "k before r", x.ballAt(2, 14, 25, -1), 1);
        refused(x, "word before r", x.ballAt(2, 24, 25, 0), 1);
        refused(x, "word", x.ballAt(2, -1, 0, 0), 1);
        refused(x, "code", x.ballAt(3, 0, 0, 0), 1);
        refused(x, "r", x.ballAt(2, 14, 25, 0), 2);
        refused(x, "r", x.ballAt(2, 14, -1, 0), 2);
    }

    // ---- what is covered: promises 14 to 26

    private static void covers() {
        // By hand: within 1 of 000, 001, 111 the words 0 to 7 are 2 2 1 2 1 2 1 1 times.
        SlipCovers x = Feeding.of("code a on 2 2 2: 000, 001, 111; code e on 2 3 weigh 3 1: 00");
        promise = 14;
        due("covered", x.covered(0, 0), 3);
        due("covered", x.covered(0, 1), 8);
        due("covered", x.covered(1, 1), 3);
        due("covered", x.covered(1, 2), 3);
        due("covered", x.covered(1, 3), 4);
        due("covered", x.covered(1, 24), 6);
        rFaults(x, "covered", r -> x.covered(0, r), x.covered(2, -1));
        promise = 15;
        int[] times = {2, 2, 1, 2, 1, 2, 1, 1};
        for (int w = 0; w < 8; w++) due("times " + w, x.times(0, w, 1), times[w]);
        rFaults(x, "times", r -> x.times(0, 0, r), x.times(0, 8, 25));
        refused(x, "word", x.times(0, -1, 0), 1);
        refused(x, "code", x.times(2, 0, 0), 1);
        promise = 16;
        int[] table = {0, 4, 4, 0};
        for (int k = 0; k < 4; k++) due("table " + k, x.table(0, 1, k), table[k]);
        due("table", x.table(0, 3, 3), 8);
        due("table", x.table(0, 0, 0), 5);
        due("table", x.table(0, 0, Integer.MAX_VALUE), 0);
        rFaults(x, "table", r -> x.table(0, r, 0), x.table(2, 25, -1));
        refused(x, "k", x.table(0, 0, -1), 2);
        promise = 17;
        int[] holes = {2, 3, 4, 5, 6, -2};
        for (int k = 0; k < 6; k++) due("hole " + k, x.hole(0, 0, k), holes[k]);
        due("no hole", x.hole(0, 1, 0), -2);
        rFaults(x, "hole", r -> x.hole(0, r, 0), x.hole(0, 25, -1));
        refused(x, "code", x.hole(2, 0, 0), 1);
        promise = 18;
        due("idle", x.idle(0, 1, 0), 1);
        due("idle", x.idle(0, 1, 1), -2);
        due("none idle", x.idle(0, 0, 0), -2);
        due("idle", x.idle(0, 2, 0), 0);
        due("idle", x.idle(0, 2, 1), 1);
        due("idle", x.idle(0, 2, 2), 7);
        due("idle", x.idle(0, 2, 3), -2);
        due("one alone", x.idle(1, 24, 0), -2);
        rFaults(x, "idle", r -> x.idle(0, r, 0), x.idle(0, 25, -1));
        refused(x, "code", x.idle(2, 0, 0), 1);
        promise = 19;
        due("excess", x.excess(0, 0), 0);
        due("excess", x.excess(0, 1), 4);
        due("excess", x.excess(0, 3), 16);
        due("with holes", x.excess(1, 1), 0);
        rFaults(x, "excess", r -> x.excess(0, r), x.excess(2, 25));
        promise = 20;
        due("bound", x.bound(0, 0), 8);
        due("bound", x.bound(0, 1), 2);
        due("upwards", x.bound(0, 2), 2);
        due("bound", x.bound(0, 3), 1);
        due("upwards", x.bound(1, 3), 2);
        rFaults(x, "bound", r -> x.bound(0, r), x.bound(2, 25));
        coversMore(x);
    }

    private interface ByR {
        int ask(int r);
    }

    /** r is refused by 2 below 0 and above 24; 1 comes ahead of it. */
    private static void rFaults(SlipCovers x, String what, ByR call, int firstRefused) {
        refused(x, what + " by 1", firstRefused, 1);
        refused(x, what + " r", call.ask(25), 2);
        refused(x, what + " r", call.ask(-1), 2);
        due(what + " r 24", call.ask(24) != -1, true);
        due(what + " no trouble", x.trouble(), 0);
    }

    private static void coversMore(SlipCovers x) {
        promise = 21;
        int[] pairs = {0, 1, 1, 1, 0};
        for (int k = 0; k < 5; k++) due("pairs " + k, x.pairs(0, k), pairs[k]);
        due("pairs", x.pairs(0, Integer.MAX_VALUE), 0);
        refused(x, "k", x.pairs(0, -1), 2);
        refused(x, "code", x.pairs(2, -1), 1);
        promise = 22;
        due("centre", x.centre(0, 0), 1);
        due("its farthest", x.centre(0, 1), 2);
        due("of one", x.centre(1, 0), 0);
        due("of one", x.centre(1, 1), 0);
        refused(x, "what", x.centre(0, 2), 1);
        refused(x, "what", x.centre(0, -1), 1);
        refused(x, "code", x.centre(2, 0), 1);
        promise = 23;
        int[] nearest = {0, 1, 0, 1, 0, 1, 7, 7};
        for (int w = 0; w < 8; w++) due("nearest " + w, x.nearest(0, w), nearest[w]);
        refused(x, "word", x.nearest(0, 8), 1);
        refused(x, "word", x.nearest(0, -1), 1);
        refused(x, "code", x.nearest(2, 0), 1);
        promise = 24;
        int[] ring = {1, 1, 0, 1, 0};
        for (int k = 0; k < 5; k++) due("ring " + k, x.ring(0, 0, k), ring[k]);
        refused(x, "k", x.ring(0, 0, -1), 2);
        refused(x, "word before k", x.ring(0, 8, -1), 1);
        refused(x, "word", x.ring(0, -1, 0), 1);
        refused(x, "code", x.ring(2, 0, 0), 1);
        promise = 25;
        due("column", x.column(0, 0, 0), 2);
        due("column", x.column(0, 0, 1), 1);
        due("column", x.column(0, 2, 1), 2);
        due("column", x.column(1, 1, 2), 0);
        refused(x, "digit", x.column(0, 0, 2), 2);
        refused(x, "digit", x.column(0, 0, -1), 2);
        refused(x, "place before digit", x.column(0, 3, 4), 1);
        refused(x, "place", x.column(0, -1, 0), 1);
        refused(x, "code", x.column(2, 0, 0), 1);
        promise = 26;
        due("worth", x.worth(0, 0, 1), 2);
        due("worth", x.worth(0, 1, 1), 0);
        due("worth", x.worth(0, 7, 1), 2);
        due("worth", x.worth(0, 7, 0), 1);
        refused(x, "no codeword", x.worth(0, 2, 1), 5);
        refused(x, "r before that", x.worth(0, 2, 25), 2);
        refused(x, "r", x.worth(0, 0, -1), 2);
        refused(x, "word before r", x.worth(0, 8, 25), 1);
        refused(x, "word", x.worth(0, -1, 0), 1);
        refused(x, "code", x.worth(2, 0, 0), 1);
        x.set(1, 0, false);
        promise = 22;
        refused(x, "no codeword", x.centre(1, 0), 5);
        refused(x, "what before that", x.centre(1, 2), 1);
        promise = 23;
        refused(x, "no codeword", x.nearest(1, 0), 5);
        refused(x, "word before that", x.nearest(1, 6), 1);
        promise = 14;
        due("none covered", x.covered(1, 24), 0);
    }

    // ---- promise 27

    private static void fewest() {
        promise = 27;
        SlipCovers x = Feeding.of("code a on 2 2 2: 000; code b on 3 3 3 3: 0000; code c on 3 3 3: 000; code d on 2 2 2 2 2 2: 000000");
        int[] want = {2, 5, 0, 7, -2, -2, -2, -2, -2, -2};
        for (int k = 0; k < 10; k++) due("fewest " + k, x.fewest(0, 1, k), want[k]);
        due("all at once", x.fewest(0, 3, 0), 1);
        due("its step", x.fewest(0, 3, 1), 1);
        due("itself", x.fewest(0, 3, 2), 0);
        for (int k = 0; k < 8; k++) due("each itself " + k, x.fewest(0, 0, 2 + k), k);
        due("8 steps", x.fewest(0, 0, 1), 8);
        due("8 aren't enough", x.fewest(1, 1, 0), -2);
        due("no step", x.fewest(1, 1, 1), 0);
        due("no row", x.fewest(1, 1, 2), -2);
        due("three", x.fewest(1, 2, 0), 3);
        due("steps", x.fewest(1, 2, 1), 684);
        due("five", x.fewest(2, 1, 0), 5);
        due("given up", x.fewest(3, 1, 0), -2);
        due("steps of it", x.fewest(3, 1, 1), 0);
        given();
        refused(x, "what", x.fewest(0, 1, 10), 1);
        refused(x, "what before r", x.fewest(0, 25, -1), 1);
        refused(x, "code", x.fewest(4, 0, 0), 1);
        refused(x, "r", x.fewest(0, 25, 0), 2);
        refused(x, "r", x.fewest(0, -1, 0), 2);
        x.longer(4, 3, 2, 1);
        refused(x, "128 words", x.fewest(4, 1, 0), 5);
        refused(x, "r before that", x.fewest(4, 25, 0), 2);
        x.set(2, 13, true);
        due("codewords don't matter", x.fewest(2, 1, 0), 5);
    }

    private static void given() {
        // 5 places of 2 by 1 need 7 words: there are more steps than that ahead of them.
        SlipCovers x = Feeding.of("code a on 2 2 2 2 2: 00000; code b on 4 4 4: 000; code c on 3 3 2 2 2: 00000");
        Model m = new Model();
        int[] n = Feeding.numbers("code a on 2 2 2 2 2: 00000; code b on 4 4 4: 000; code c on 3 3 2 2 2: 00000");
        for (int k = 0; k < n.length; k += 5) m.feed(n[k], n[k + 1], n[k + 2], n[k + 3], n[k + 4]);
        m.text(78);
        due("seven", x.fewest(0, 1, 0), 7);
        for (int c = 0; c < 3; c++) for (int r = 0; r < 5; r++) for (int k = 0; k < 4; k++) {
            due("as the model " + c + " " + r + " " + k, x.fewest(c, r, k), m.fewest(c, r, k));
        }
        due("60,000 steps", x.fewest(1, 1, 1), 60000);
        due("given up", x.fewest(1, 1, 0), -2);
        due("given up", x.fewest(1, 1, 9), -2);
    }

    // ---- acts: promises 28 to 40

    private static void acts() {
        promise28();
        promise29to31();
        promise32and33();
        promise34and35();
        promise36and37();
        promise38and39();
        promise40();
    }

    private static void promise28() {
        promise = 28;
        SlipCovers x = Feeding.of(TWO);
        due("set", x.set(0, 5, true), 3);
        codewords(x, "set", 0, 0, 5, 7);
        due("set", x.set(0, 0, false), 2);
        codewords(x, "set", 0, 5, 7);
        refused(x, "is so", x.set(0, 5, true), 5);
        refused(x, "is so", x.set(0, 0, false), 5);
        refused(x, "word", x.set(0, 8, true), 1);
        refused(x, "word", x.set(0, -1, false), 1);
        refused(x, "code", x.set(2, 0, true), 1);
        refused(x, "code", x.set(-1, 0, true), 1);
        due("refused ones are no acts", x.undo(), 1);
    }

    private static void promise29to31() {
        promise = 29;
        SlipCovers x = Feeding.of("code a on 2 2 2: 001; code b on 3 3 3 3: 0000; code c on 4 4 4 4: 0000");
        // 110 covers four of the holes 2, 4, 6, 7 that 001 leaves.
        due("greedy", x.greedy(0, 1), 1);
        codewords(x, "greedy", 0, 1, 6);
        due("no holes", x.greedy(0, 1), 0);
        due("an act all the same", x.undo(), 1);
        due("greedy by 0", x.greedy(0, 0), 6);
        due("undone", x.undo(), 1);
        x.set(0, 1, false);
        x.set(0, 6, false);
        due("of none", x.greedy(0, 1), 2);
        codewords(x, "of like ones the first", 0, 0, 7);
        due("all of 256", x.greedy(2, 0), 255);
        due("256", x.about(2, 2), 256);
        rFaults(x, "greedy", r -> x.greedy(0, r), x.greedy(3, 25));
        promise = 30;
        due("thin", x.thin(2, 4), 255);
        codewords(x, "thin from the last", 2, 0);
        due("one stays", x.thin(2, 24), 0);
        due("an act all the same", x.undo(), 7);
        SlipCovers y = Feeding.of("code a on 2 2 2: 000, 001, 111, 011");
        // The last, 111, is needed for 110; 011 (3) goes; then 001 is needed for 101? 111 covers it: it goes, too.
        due("thin", y.thin(0, 1), 2);
        codewords(y, "thin", 0, 0, 7);
        Feeding.text(y, "code a on 2 2 2: 000, 001, 110");
        due("the first goes, too", y.thin(0, 1), 1);
        codewords(y, "the first goes, too", 0, 1, 6);
        rFaults(y, "thin", r -> y.thin(0, r), y.thin(1, 25));
        promise = 31;
        SlipCovers z = Feeding.of("code a on 2 2 2: 000, 001; code b on 2 2 2 2 2 2 2: 0000000; code c on 3 3 3 3: 0000, 0001, 0002");
        due("better", z.better(0, 1), 1);
        codewords(z, "the first codeword, the first word", 0, 1, 6);
        due("no better", z.better(0, 1), 0);
        due("an act all the same", z.undo(), 1);
        due("81 words", z.better(2, 2) > 0, true);
        refused(z, "128 words", z.better(1, 1), 5);
        refused(z, "r before that", z.better(1, 25), 2);
        rFaults(z, "better", r -> z.better(0, r), z.better(3, 25));
    }

    private static void promise32and33() {
        promise = 32;
        SlipCovers x = Feeding.of(TWO);
        due("sum", x.sum(7, 0, 1), 4);
        places(x, "sum", 7, 2, 1, 2, 1, 2, 1, 3, 2, 2, 1);
        codewords(x, "sum", 7, 0, 3, 42, 45);
        due("onto one of them", x.sum(1, 1, 1), 4);
        places(x, "sum", 1, 3, 2, 2, 1, 3, 2, 2, 1);
        codewords(x, "sum", 1, 0, 3, 18, 21);
        refused(x, "to", x.sum(8, 0, 1), 1);
        refused(x, "to", x.sum(-1, 0, 1), 1);
        refused(x, "one", x.sum(0, 2, 1), 1);
        refused(x, "other", x.sum(0, 1, 2), 1);
        refused(x, "words", x.sum(0, 1, 7), 3);
        due("nothing changed", x.about(0, 1), 8);
        Feeding.text(x, "code a on 2 2 2 2: 0000; code b on 2 2 2 2 2: 00000; code c on 2 2 2 2: 1111");
        due("just room", x.sum(0, 0, 2), 1);
        codewords(x, "just room", 0, 15);
        due("256", x.about(0, 1), 256);
        refused(x, "places", x.sum(3, 1, 2), 3);
        refused(x, "no code was made", x.about(3, 0), 1);
        promise = 33;
        SlipCovers y = Feeding.of("code a on 3 2 weigh 2 1: 00, 11, 21; code b on 2 4 weigh 1 3: 03, 10, 12; code c on 2 2 2 2 2: 00000; code d on 4 4 4 weigh 3 1 1: 000");
        due("join", y.join(4, 0, 1), 5);
        places(y, "join", 4, 3, 2, 2, 1, 4, 3);
        codewords(y, "join", 4, 3, 12, 14, 20, 22);
        refused(y, "size", y.join(4, 0, 3), 5);
        refused(y, "size", y.join(4, 3, 0), 5);
        refused(y, "weight", y.join(4, 3, 3), 5);
        due("longer", y.join(4, 1, 3), 1);
        codewords(y, "join", 4, 64);
        due("one place alone", y.shorter(5, 0, 0, 1), 1);
        due("one place alone", y.join(5, 5, 5), 1);
        places(y, "one place alone", 5, 2, 1);
        codewords(y, "one place alone", 5, 1);
        refused(y, "nine places", y.join(6, 2, 2), 3);
        due("eight places", y.shorter(6, 2, 0, 0), 1);
        due("eight places", y.join(6, 2, 6), 1);
        due("eight places", y.about(6, 0), 8);
        due("swap", y.swap(7, 3, 0, 2), true);
        refused(y, "words", y.join(7, 7, 3), 3);
        refused(y, "to", y.join(8, 0, 1), 1);
        refused(y, "to", y.join(-1, 0, 1), 1);
        SlipCovers z = Feeding.of(TWO);
        refused(z, "one", z.join(0, 2, 1), 1);
        refused(z, "other", z.join(0, 1, 2), 1);
    }

    private static void promise34and35() {
        promise = 34;
        SlipCovers x = Feeding.of(TWO);
        due("longer", x.longer(2, 1, 4, 3), 8);
        places(x, "longer", 2, 3, 2, 2, 1, 4, 3);
        codewords(x, "longer", 2, 0, 1, 2, 3, 12, 13, 14, 15);
        refused(x, "size", x.longer(2, 1, 1, 1), 2);
        refused(x, "size", x.longer(2, 1, 5, 1), 2);
        refused(x, "weight", x.longer(2, 1, 2, 0), 2);
        refused(x, "weight", x.longer(2, 1, 2, 4), 2);
        refused(x, "to before size", x.longer(8, 1, 5, 1), 1);
        refused(x, "code before size", x.longer(2, 3, 5, 1), 1);
        for (int k = 0; k < 5; k++) x.longer(0, 0, 2, 1);
        due("eight places", x.about(0, 0), 8);
        refused(x, "no room", x.longer(3, 0, 2, 1), 3);
        refused(x, "size before room", x.longer(3, 0, 5, 1), 2);
        x.longer(3, 2, 4, 1);
        refused(x, "words", x.longer(3, 3, 3, 1), 3);
        due("words", x.longer(3, 3, 2, 1), 64);
        promise = 35;
        SlipCovers y = Feeding.of("code a on 3 2 4 weigh 1 2 3: 000, 013, 112, 210, 213; code b on 3: 0, 2");
        due("shorter", y.shorter(2, 0, 1, 1), 4);
        places(y, "shorter", 2, 3, 1, 4, 3);
        codewords(y, "shorter", 2, 3, 6, 8, 11);
        due("the first place", y.shorter(2, 0, 0, 2), 2);
        codewords(y, "shorter", 2, 4, 7);
        due("the last place", y.shorter(2, 0, 2, 3), 2);
        codewords(y, "shorter", 2, 1, 5);
        due("none", y.shorter(2, 0, 2, 1), 0);
        due("onto itself", y.shorter(0, 0, 1, 0), 1);
        places(y, "onto itself", 0, 3, 1, 4, 3);
        refused(y, "one place", y.shorter(0, 1, 0, 0), 5);
        refused(y, "digit before that", y.shorter(0, 1, 0, 3), 2);
        refused(y, "digit", y.shorter(0, 1, 0, -1), 2);
        refused(y, "place before digit", y.shorter(0, 1, 1, 3), 1);
        refused(y, "place", y.shorter(0, 1, -1, 0), 1);
        refused(y, "code", y.shorter(0, 3, 0, 0), 1);
        refused(y, "to", y.shorter(8, 0, 0, 0), 1);
    }

    private static void promise36and37() {
        promise = 36;
        SlipCovers x = Feeding.of("code a on 3 2 4 weigh 1 2 3: 013, 112, 210");
        due("swap", x.swap(1, 0, 0, 2), true);
        places(x, "swap", 1, 4, 3, 2, 2, 3, 1);
        codewords(x, "swap", 1, 5, 16, 21);
        due("back", x.swap(1, 1, 2, 0), true);
        due("the same again", x.same(0, 1), 1);
        due("the same place", x.swap(0, 0, 1, 1), true);
        due("nothing changed", x.same(0, 1), 1);
        due("an act all the same", x.undo(), 2);
        refused(x, "place", x.swap(0, 0, 0, 3), 1);
        refused(x, "place", x.swap(0, 0, 3, 0), 1);
        refused(x, "place", x.swap(0, 0, -1, 0), 1);
        refused(x, "place", x.swap(0, 0, 0, -1), 1);
        refused(x, "code", x.swap(0, 2, 0, 0), 1);
        refused(x, "to", x.swap(8, 0, 0, 0), 1);
        refused(x, "to", x.swap(-1, 0, 0, 0), 1);
        promise = 37;
        due("shift", x.shift(2, 0, 0, 1), true);
        places(x, "shift", 2, 3, 1, 2, 2, 4, 3);
        codewords(x, "113, 212, 010", 2, 4, 15, 22);
        due("round", x.shift(2, 0, 1, 3), true);
        codewords(x, "003, 102, 200", 2, 3, 10, 16);
        due("by 0", x.shift(2, 0, 2, 0), true);
        due("the same", x.same(2, 0), 1);
        refused(x, "k", x.shift(2, 0, 0, 4), 2);
        refused(x, "k", x.shift(2, 0, 0, -1), 2);
        refused(x, "place before k", x.shift(2, 0, 3, 4), 1);
        refused(x, "code", x.shift(2, 3, 0, 0), 1);
        refused(x, "to", x.shift(8, 0, 0, 0), 1);
    }

    private static void promise38and39() {
        promise = 38;
        SlipCovers x = Feeding.of("code a on 2 4: 00, 03, 12; code b on 2 4: 03, 10; code c on 4 2: 00; code d on 2 4 weigh 1 2: 00");
        due("either", x.mix(4, 0, 1, 0), 4);
        codewords(x, "either", 4, 0, 3, 4, 6);
        due("both", x.mix(4, 0, 1, 1), 1);
        codewords(x, "both", 4, 3);
        due("the one alone", x.mix(4, 0, 1, 2), 2);
        codewords(x, "the one alone", 4, 0, 6);
        due("itself", x.mix(0, 0, 0, 2), 0);
        places(x, "itself", 0, 2, 1, 4, 1);
        refused(x, "what", x.mix(4, 0, 1, 3), 1);
        refused(x, "what before the spaces", x.mix(4, 0, 2, -1), 1);
        refused(x, "sizes", x.mix(4, 1, 2, 0), 5);
        refused(x, "weights", x.mix(4, 1, 3, 0), 5);
        refused(x, "to", x.mix(8, 0, 1, 0), 1);
        refused(x, "one", x.mix(4, 5, 1, 0), 1);
        refused(x, "other", x.mix(4, 1, 5, 0), 1);
        promise = 39;
        due("holes", x.holes(5, 2, 1), 3);
        codewords(x, "holes", 5, 3, 5, 7);
        due("by weights", x.holes(5, 3, 1), 6);
        places(x, "holes", 5, 2, 1, 4, 2);
        due("onto itself", x.holes(1, 1, 0), 6);
        due("none", x.holes(1, 1, 24), 0);
        due("of none all", x.holes(1, 1, 24), 8);
        rFaults(x, "holes", r -> x.holes(5, 1, r), x.holes(8, 1, 25));
        refused(x, "code", x.holes(5, 6, 0), 1);
    }

    private static void promise40() {
        promise = 40;
        SlipCovers x = new SlipCovers();
        refused(x, "nothing to undo", x.undo(), 5);
        Feeding.text(x, TWO);
        refused(x, "a text is no act", x.undo(), 5);
        x.sum(2, 0, 0);
        x.set(2, 1, true);
        x.longer(2, 1, 2, 2);
        due("undo", x.undo(), 2);
        codewords(x, "undo", 2, 0, 1, 7, 56, 63);
        due("undo", x.undo(), 1);
        codewords(x, "undo", 2, 0, 7, 56, 63);
        due("undo", x.undo(), 0);
        refused(x, "there was none", x.about(2, 0), 1);
        refused(x, "no more", x.undo(), 5);
        for (int k = 0; k < 12; k++) due("twelve acts", x.set(0, 1 + k % 6, k < 6), k < 6 ? 3 + k : 7 - (k - 6));
        for (int k = 9; k >= 0; k--) due("ten of them", x.undo(), k);
        refused(x, "the eldest stay", x.undo(), 5);
        codewords(x, "the eldest stay", 0, 0, 1, 2, 7);
        x.set(0, 3, true);
        x.set(0, 9, true);
        due("refused ones don't count", x.undo(), 0);
        x.shift(5, 0, 0, 1);
        x.undo();
        refused(x, "gone", x.has(5, 0), 1);
        // Each act can be undone, and each slot is given back as it was.
        x.greedy(0, 0);
        x.thin(0, 1);
        x.better(1, 1);
        x.join(3, 0, 0);
        x.shorter(4, 0, 0, 0);
        x.swap(5, 1, 0, 1);
        x.mix(6, 0, 0, 0);
        x.holes(7, 1, 0);
        due("eight acts", x.undo(), 7);
        for (int k = 6; k >= 0; k--) due("each", x.undo(), k);
        codewords(x, "as it was", 0, 0, 1, 2, 7);
        codewords(x, "as it was", 1, 0, 3);
        for (int c = 2; c < 8; c++) refused(x, "as it was", x.about(c, 0), 1);
    }

    // ---- what is told: promises 41 to 44

    private static boolean throwsAt(SlipCovers x, int c, int k) {
        try {
            x.letter(c, k);
            return false;
        } catch (NoSuchElementException e) {
            return true;
        }
    }

    private static void told() {
        promise = 41;
        SlipCovers x = Feeding.of("code abcxyz on 2 4: 00, 03; code b on 2 4: 03, 00; code c on 2 4 weigh 1 2: 00, 03; code dq on 4 2: 00, 11");
        due("same", x.same(0, 0), 1);
        due("same", x.same(0, 1), 1);
        due("weights", x.same(0, 2), 0);
        due("sizes", x.same(0, 3), 0);
        x.set(1, 1, true);
        due("codewords", x.same(0, 1), 0);
        x.set(1, 3, false);
        due("codewords", x.same(0, 1), 0);
        x.longer(4, 0, 2, 1);
        due("places", x.same(0, 4), 0);
        refused(x, "one", x.same(5, 0), 1);
        refused(x, "other", x.same(0, 5), 1);
        refused(x, "other", x.same(0, -1), 1);
        promise = 42;
        int[] letters = {0, 1, 2, 23, 24, 25};
        for (int k = 0; k < 6; k++) due("letter " + k, x.letter(0, k), letters[k]);
        due("letter", x.letter(3, 1), 16);
        int[][] none = {{0, 6}, {0, -1}, {1, 1}, {3, 2}, {4, 0}, {-1, 0}, {8, 0}, {0, 32}, {Integer.MIN_VALUE, 0}, {0, Integer.MAX_VALUE}};
        for (int[] n : none) due("letter " + n[0] + " " + n[1], throwsAt(x, n[0], n[1]), true);
        due("trouble stays", x.trouble(), 1);
        due("none ahead of any text", throwsAt(new SlipCovers(), 0, 0), true);
        Feeding.text(x, "code zz on 2: 9");
        due("a fault leaves names", x.letter(0, 0), 0);
        Feeding.text(x, "code z on 2: 0");
        due("a text has its own", x.letter(0, 0), 25);
        due("a text has its own", throwsAt(x, 1, 0), true);
        promise = 43;
        due("none", x.bytes(), 0);
        x.feed(0, 0, 0, 0, 0);
        x.feed(0, 0, 0, 0, 0);
        due("forty", x.bytes(), 40);
        x.text(1);
        due("empty", x.bytes(), 0);
        promise = 44;
        due("4", x.trouble(), 4);
        x.about(0, 0);
        due("0", x.trouble(), 0);
        x.about(1, 0);
        due("1", x.trouble(), 1);
        x.trouble();
        x.bytes();
        x.fault();
        x.where();
        x.feed(0, 0, 0, 0, 0);
        due("stays", x.trouble(), 1);
        x.ball(0, 25);
        due("2", x.trouble(), 2);
        x.undo();
        due("5", x.trouble(), 5);
        for (int k = 0; k < 8; k++) x.longer(0, 0, 2, 1);
        due("3", x.trouble(), 3);
        x.word(0, 256);
        due("-2 is no refusal", x.trouble(), 0);
    }
}
