/** Terms I, THE TEXT and its FAULTS: each sentence that names a bound, with what lies on it and just beyond. */
public final class TextBoundsTest {
    private static final Check check = new Check();

    public static void main(String[] args) {
        blanks();
        names();
        runs();
        signs();
        lines();
        weights();
        reservedNames();
        noTwoAlike();
        firstFromTheLeft();
        leastNumber();
        formByTable();
        formOfKeywords();
        formOfBytes();
        formOfTooMany();
        formOfWeights();
        formOfTheEnd();
        noSize();
        noWeight();
        noWord();
        toldAgain();
        fifthCode();
        ninthSize();
        moreThan256();
        check.end();
    }

    // ---- TOKENS

    private static void blanks() {
        check.of("Terms I: blanks, 32, part TOKENS and mean nothing else");
        SlipCovers x = check.sound("code a on 2 3 weigh 1 3:02,10", 1);
        check.codewords(x, "few", 0, 2, 3);
        x = check.sound("    code    a   on   2    3   weigh   1   3   :   02   ,   10    ", 1);
        check.places(x, "many", 0, 2, 1, 3, 3);
        check.codewords(x, "many", 0, 2, 3);
        x = check.sound("code a on2 3 weigh1 3:02;code b on2:1", 2);
        check.codewords(x, "none between unlike ones", 1, 1);
        check.faulty("code a on 2 3: 0 2", 2, 15);
        check.faulty("co de a on 2: 0", 1, 0);
        check.faulty("codea on 2: 0", 1, 0);
        check.of("Terms I: 32 alone is a blank");
        for (int b : new int[] {0, 9, 10, 13, 31, 33, 95, 127, 128, 160, 255}) {
            check.faulty("code a on 2:" + (char) b + "0", 1, 12);
            check.faulty("code a on 2:0" + (char) b, 1, 13);
        }
    }

    private static void names() {
        check.of("Terms I: NAMES of 1 to 6 small letters");
        SlipCovers x = check.sound("code a on 2: 0; code abcdef on 2: 1", 2);
        check.due("the last letter", x.letter(1, 5), 5);
        check.faulty("code abcdefg on 2: 0", 1, 5);
        check.faulty("code " + "x".repeat(300), 1, 5);
        x = check.sound("code az on 2: 0; code za on 2: 1", 2);
        check.due("a", x.letter(0, 0), 0);
        check.due("z", x.letter(0, 1), 25);
        for (char b : "`{AZ@[_".toCharArray()) {
            check.faulty("code " + b, 1, 5);
            check.faulty("code a" + b + " on 2: 0", 1, 6);
        }
    }

    private static void runs() {
        check.of("Terms I: RUNS of 1 to 8 digits");
        check.sound("code a on 2: 0", 1);
        SlipCovers x = check.sound("code a on 2 2 2 2 2 2 2 2: 10000001", 1);
        check.codewords(x, "8 digits", 0, 129);
        check.faulty("code a on 2 2 2 2 2 2 2 2: 100000010", 1, 27);
        check.faulty("code a on " + "2".repeat(300), 1, 10);
        check.faulty("code a on 2: /", 1, 13);
        check.faulty("code a on 2: 0/", 1, 14);
        check.faulty("code a on 2: 9", 2, 13);
    }

    private static void signs() {
        check.of("Terms I: single ones of ; , :");
        check.faulty("code a on 2:: 0", 1, 12);
        check.faulty("code a on 2: 0,, 1", 1, 15);
        check.faulty("code a on 2: 0;; code b on 2: 0", 1, 15);
        for (char b : ".<=-+*'\"".toCharArray()) check.faulty("code a on 2" + b + " 0", 1, 11);
    }

    // ---- LINES

    private static void lines() {
        check.of("Terms I: LINE {; LINE}, CODES from 0 on, up to 4");
        String all = "";
        for (int n = 1; n <= 4; n++) {
            all = (n > 1 ? all + ";" : "") + "code " + "xabcd".charAt(n) + " on " + (n % 3 + 2) + ":" + n % 2;
            SlipCovers x = check.sound(all, n);
            for (int c = 0; c < n; c++) check.due("code " + c, x.about(c, 1), (c + 1) % 3 + 2);
            for (int c = n; c < 8; c++) check.refused(x, "code " + c, x.about(c, 1), 1);
        }
        check.faulty(all + ";", 1, all.length() + 1);
        check.faulty(";" + all, 1, 0);
    }

    private static void weights() {
        check.of("Terms I: WEIGHTS (as many as SIZES; 1 each without)");
        check.places(check.sound("code a on 2 3 4: 000", 1), "without", 0, 2, 1, 3, 1, 4, 1);
        check.places(check.sound("code a on 2 3 4 weigh 3 2 1: 000", 1), "with", 0, 2, 3, 3, 2, 4, 1);
        check.places(check.sound("code a on 4 weigh 3: 0", 1), "one", 0, 4, 3);
        SlipCovers x = check.sound("code a on 2 2 2 2 2 2 2 2 weigh 3 3 3 3 3 3 3 3: 00000000; code b on 2 2: 00", 2);
        check.due("eight", x.about(0, 3), 24);
        check.places(x, "those of the line ahead don't stay", 1, 2, 1, 2, 1);
    }

    private static void reservedNames() {
        check.of("Terms I: A NAME is no code, on, weigh");
        for (String name : new String[] {"code", "on", "weigh"}) {
            check.faulty("code " + name + " on 2: 0", 1, 5);
            check.faulty("code a on 2: 0; code " + name + " on 2: 0", 1, 21);
        }
        for (String name : new String[] {"cod", "codes", "o", "no", "onn", "weig", "weighs"}) {
            check.sound("code " + name + " on 2: 0", 1);
        }
    }

    private static void noTwoAlike() {
        check.of("Terms I: no two NAMES alike");
        check.faulty("code a on 2: 0; code a on 2: 0", 3, 21);
        check.faulty("code ab on 2:0;code b on 2:0;code c on 2:0;code ab", 3, 48);
        check.faulty("code abcdef on 2: 0; code abcdef", 3, 26);
        check.sound("code ab on 2:0;code ba on 2:0;code a on 2:0;code b on 2:0", 4);
        check.sound("code abcdef on 2:0;code abcdeg on 2:0;code abcde on 2:0;code bbcdef on 2:0", 4);
        SlipCovers x = check.sound("code a on 2: 0", 1);
        check.fine(x, "a NAME of the TEXT ahead", Feeding.text(x, "code a on 2: 1"), 1);
        check.faulty(x, "code b on 2: 0; code a on 5", 2, 26);
        check.fine(x, "a NAME of a TEXT refused", Feeding.text(x, "code c on 2:0; code b on 2: 1"), 2);
    }

    // ---- which FAULT is told

    private static void firstFromTheLeft() {
        check.of("Terms I: Told is the first TOKEN, from the left, at which one is found");
        check.faulty("code a on 9 # 9", 2, 10);
        check.faulty("code a on 2 # 9", 1, 12);
        check.faulty("code a on 2 2: 00, 00, 22, #", 3, 19);
        check.faulty("code a on 2 2: 00, 22, 00, #", 2, 19);
        check.faulty("code a on 4 4 4 4 4: 9; code a", 4, 18);
        check.faulty("code a on 2: 0; code a on 9", 3, 21);
        check.faulty("code a on 2: 0; code b on 9; code a", 2, 26);
        check.faulty("code a on 2: 0 " + "abcdefg", 1, 15);
        check.faulty("code a on 2: 2 " + "abcdefg", 2, 13);
    }

    private static void leastNumber() {
        check.of("Terms I: of one TOKEN the least number");
        // 1 and 2: a run too many that is no weight, too
        check.faulty("code a on 2 weigh 1 7: 0", 1, 20);
        // 1 and 2: digits too many are no size, no weight, no word, either
        check.faulty("code a on 222222222", 1, 10);
        check.faulty("code a on 2 weigh 111111111", 1, 18);
        check.faulty("code a on 2: 000000000", 1, 13);
        // 1 and 3: a name told again that stands where no name goes on
        check.faulty("code a on 2: 0; a", 1, 16);
        // 1 and 3: a codeword told again where no run goes on
        check.faulty("code a on 2: 0 0", 1, 15);
        // 1 and 4: a fifth line that begins with another token
        check.faulty("code a on 2:0;code b on 2:0;code c on 2:0;code d on 2:0;a", 1, 56);
        check.faulty("code a on 2:0;code b on 2:0;code c on 2:0;code d on 2:0;codes", 1, 56);
        // 1 and 4: a ninth run of nine digits
        check.faulty("code a on 2 2 2 2 2 2 2 2 222222222", 1, 26);
        // 2 and 4: a ninth run that is no size; a run by which there would be more words, if it were one
        check.faulty("code a on 2 2 2 2 2 2 2 2 5", 2, 26);
        check.faulty("code a on 2 2 2 2 2 2 2 2 1", 2, 26);
        check.faulty("code a on 2 2 2 2 2 2 2 2 22", 2, 26);
        check.faulty("code a on 4 4 4 4 9", 2, 18);
        // 2 and 3: no word, told twice, is told at the first
        check.faulty("code a on 2: 2, 2", 2, 13);
    }

    // ---- 1 FORM

    /** What a text may go on with behind a beginning: any other token is a fault of form, at its place. */
    private static void goesOn(String beginning, String... tokens) {
        String[] some = {"code", "on", "weigh", "x", "2", "1", "00", "0", ";", ",", ":", "", "#", "abcdefg", "123456789"};
        for (String token : some) {
            boolean may = false;
            for (String t : tokens) may |= t.equals(token);
            SlipCovers x = new SlipCovers();
            String text = beginning + token;
            int got = Feeding.text(x, text);
            boolean toldHere = got == -1 && x.fault() == 1 && x.where() == beginning.length();
            check.due("[" + beginning + "] goes on with [" + token + "]", !toldHere, may);
        }
    }

    private static void formByTable() {
        check.of("Terms I: 1 FORM: a TOKEN with which no TEXT goes on");
        goesOn("", "code");
        goesOn("   ", "code");
        goesOn("code ", "x");
        goesOn("code a ", "on");
        // A run that is no size is a fault of its own, not of form.
        goesOn("code a on ", "2", "1", "00", "0");
        goesOn("code a on 3 ", "2", "1", "00", "0", "weigh", ":");
        goesOn("code a on 2 2 2 2 2 2 2 2 ", "2", "1", "00", "0", "weigh", ":");
        goesOn("code a on 3 2 weigh ", "2", "1", "00", "0");
        goesOn("code a on 3 2 weigh 1 ", "2", "1", "00", "0");
        goesOn("code a on 3 2 weigh 1 1 ", ":");
        goesOn("code a on 3 2 : ", "2", "1", "00", "0");
        goesOn("code a on 3 2 weigh 1 1 : ", "2", "1", "00", "0");
        goesOn("code a on 3 2 : 10 ", ",", ";", "");
        goesOn("code a on 3 2 : 10 , ", "2", "1", "00", "0");
        goesOn("code a on 3 2 : 10 , 11 ", ",", ";", "");
        goesOn("code a on 3 2 : 10 ; ", "code");
        goesOn("code a on 3 2 : 10 ; code ", "x");
        goesOn("code a on 2:0;code b on 2:0;code c on 2:0;code d on 2:0 ", ",", ";", "");
        goesOn("code a on 2:0;code b on 2:0;code c on 2:0;code d on 2:0; ", "code");
    }

    private static void formOfKeywords() {
        check.of("Terms I: 1 FORM: a NAME that is no code, on, weigh where one of these must be");
        String text = "code a on 2 weigh 1: 0";
        String[] words = {"code", "on", "weigh"};
        for (String word : words) {
            int at = text.indexOf(word);
            for (int k = 0; k < word.length(); k++) {
                for (char b : "az".toCharArray()) {
                    check.faulty(text.substring(0, at + k) + b + text.substring(at + k + 1), 1, at);
                }
                check.faulty(text.substring(0, at + k) + text.substring(at + k + 1), 1, at);
            }
            check.faulty(text.substring(0, at) + word + "s" + text.substring(at + word.length()), 1, at);
        }
    }

    private static void formOfBytes() {
        check.of("Terms I: 1 FORM: a byte that begins no TOKEN");
        for (int b = 0; b < 256; b++) {
            boolean begins = b >= 'a' && b <= 'z' || b >= '0' && b <= '9' || b == ';' || b == ',' || b == ':' || b == ' ';
            if (!begins) {
                check.faulty("code a on 2: 0" + (char) b + ", 1", 1, 14);
                check.faulty("" + (char) b, 1, 0);
            }
        }
    }

    private static void formOfTooMany() {
        check.of("Terms I: 1 FORM: letters or digits too many that stand together (at the first of these)");
        check.faulty("code abcdefg on 2: 0", 1, 5);
        check.faulty("  codeaon 2: 0", 1, 2);
        check.faulty("code a on 2 weighing 1: 0", 1, 12);
        check.faulty("code a on 2: 0; codecode b", 1, 16);
        check.faulty("code a on 2:000000000", 1, 12);
        check.faulty("code a on 2: 0, 123456789", 1, 16);
        // Digits part letters, and letters digits.
        check.faulty("code abc4def", 1, 8);
        check.faulty("code a on 2222x2222", 2, 10);
    }

    private static void formOfWeights() {
        check.of("Terms I: 1 FORM: also a : with fewer WEIGHTS than SIZES, a RUN with more");
        check.faulty("code a on 2 2 weigh : 00", 1, 20);
        check.faulty("code a on 2 2 weigh 1 : 00", 1, 22);
        check.sound("code a on 2 2 weigh 1 1 : 00", 1);
        check.faulty("code a on 2 2 weigh 1 1 1 : 00", 1, 24);
        check.faulty("code a on 2 2 2 2 2 2 2 2 weigh 1 1 1 1 1 1 1 : 00000000", 1, 46);
        check.sound("code a on 2 2 2 2 2 2 2 2 weigh 1 1 1 1 1 1 1 1 : 00000000", 1);
        check.faulty("code a on 2 2 2 2 2 2 2 2 weigh 1 1 1 1 1 1 1 1 1 : 00000000", 1, 48);
    }

    private static void formOfTheEnd() {
        check.of("Terms I: 1 FORM: the end of the text: how many bytes it has");
        String whole = "code a on 2 3 weigh 1 1: 00, 12; code b on 2: 0";
        // The places at which the text may end: behind whole codewords.
        for (int n = 0; n <= whole.length(); n++) {
            SlipCovers x = new SlipCovers();
            Feeding.feed(x, whole);
            int got = x.text(n);
            boolean sound = n == 27 || n == 31 || n == whole.length();
            check.due("ended at " + n, got != -1, sound);
            if (sound) continue;
            // A word cut off is a run that is no word; a keyword cut off is another name, told where it begins.
            int fault = n == 26 || n == 30 ? 2 : 1;
            int where = n;
            if (n >= 1 && n <= 3) where = 0;
            if (n == 8) where = 7;
            if (n >= 15 && n <= 18) where = 14;
            if (n == 26) where = 25;
            if (n == 30) where = 29;
            if (n >= 34 && n <= 36) where = 33;
            if (n == 41) where = 40;
            check.due("ended at " + n + ", fault", x.fault(), fault);
            check.due("ended at " + n + ", where", x.where(), where);
        }
        check.faulty("", 1, 0);
        check.faulty(" ", 1, 1);
        check.faulty("code a on 2:   ", 1, 15);
        check.faulty(" ".repeat(600), 1, 600);
        check.faulty("code a on 2: 0" + " ".repeat(585) + ";", 1, 600);
        check.sound("code a on 2: 0" + " ".repeat(586), 1);
        check.of("Terms I: what lies behind the text on THE TAPE is no part of it");
        SlipCovers x = new SlipCovers();
        Feeding.feed(x, "code ab on 22: 0, 1#");
        check.due("cut off", x.text(12), -1);
        check.due("the end", x.where(), 12);
        Feeding.feed(x, "code abcdefgh");
        check.due("a name of 6 letters by its end", x.text(11), -1);
        check.due("the end", x.where(), 11);
        Feeding.feed(x, "code a on 2: 0123456789");
        check.fine(x, "a codeword by its end", x.text(14), 1);
    }

    // ---- 2

    private static void noSize() {
        check.of("Terms I: 2 a RUN that is no SIZE (one digit, within bounds)");
        for (int size = 0; size <= 9; size++) {
            boolean is = size >= 2 && size <= 4;
            if (is) {
                check.places(check.sound("code a on " + size + ": 0", 1), "size", 0, size, 1);
            } else {
                check.faulty("code a on " + size + ": 0", 2, 10);
                check.faulty("code a on 2 " + size + ": 00", 2, 12);
            }
        }
        for (String run : new String[] {"22", "02", "20", "002", "00000002"}) check.faulty("code a on " + run + ": 0", 2, 10);
    }

    private static void noWeight() {
        check.of("Terms I: 2 a RUN that is no WEIGHT (one digit, within bounds)");
        for (int weight = 0; weight <= 9; weight++) {
            boolean is = weight >= 1 && weight <= 3;
            if (is) {
                check.places(check.sound("code a on 4 weigh " + weight + ": 0", 1), "weight", 0, 4, weight);
            } else {
                check.faulty("code a on 4 weigh " + weight + ": 0", 2, 18);
                check.faulty("code a on 4 2 weigh 1 " + weight + ": 00", 2, 22);
            }
        }
        for (String run : new String[] {"11", "01", "10", "001", "00000001"}) check.faulty("code a on 4 weigh " + run + ": 0", 2, 18);
    }

    private static void noWord() {
        check.of("Terms I: 2 a RUN that is no WORD of the SPACE (as many digits as places)");
        check.faulty("code a on 2 3 4: 12", 2, 17);
        check.codewords(check.sound("code a on 2 3 4: 123", 1), "the last word", 0, 23);
        check.faulty("code a on 2 3 4: 0123", 2, 17);
        check.faulty("code a on 2 2 2 2 2 2 2 2: 0000000", 2, 27);
        check.faulty("code a on 2: 00", 2, 13);
        check.of("Terms I: 2 a RUN that is no WORD of the SPACE (each one of its place)");
        check.faulty("code a on 2 3 4: 223", 2, 17);
        check.faulty("code a on 2 3 4: 133", 2, 17);
        check.faulty("code a on 2 3 4: 124", 2, 17);
        check.faulty("code a on 2 3 4: 000, 123, 199", 2, 27);
        check.faulty("code a on 4 4: 33; code b on 2 2: 33", 2, 34);
    }

    // ---- 3 and 4

    private static void toldAgain() {
        check.of("Terms I: 3 a NAME, a CODEWORD of that LINE told again");
        check.faulty("code a on 2 2: 00, 00", 3, 19);
        check.faulty("code a on 2 2: 11, 10, 01, 00, 11", 3, 31);
        SlipCovers x = check.sound("code a on 2 2: 00, 11; code b on 2 2: 00, 11", 2);
        check.due("another line may tell it, too", x.same(0, 1), 1);
        check.faulty("code a on 2: 0; code b on 2: 0, 0", 3, 32);
        check.fine(x, "a codeword of the text ahead", Feeding.text(x, "code a on 2 2: 00"), 1);
        check.faulty(x, "code a on 2 2: 10, 9", 2, 19);
        check.fine(x, "a codeword of a text refused", Feeding.text(x, "code a on 2 2: 10"), 1);
    }

    private static void fifthCode() {
        check.of("Terms I: 4 a fifth code, at that NAME code");
        String four = "code a on 2:0;code b on 2:0;code c on 2:0;code d on 2:0";
        check.sound(four, 4);
        check.faulty(four + ";code", 4, 56);
        check.faulty(four + ";   code e on 2:0", 4, 59);
        check.faulty(four + ";code a on 9:0;", 4, 56);
    }

    private static void ninthSize() {
        check.of("Terms I: 4 a ninth SIZE");
        check.sound("code a on 2 2 2 2 2 2 2 2: 00000000", 1);
        check.faulty("code a on 2 2 2 2 2 2 2 2 2: 00000000", 4, 26);
        check.faulty("code a on 2 2 2 2 2 2 2 2 4", 4, 26);
    }

    private static void moreThan256() {
        check.of("Terms I: 4 a SIZE by which there would be more than 256 WORDS");
        String[] full = {"4 4 4 4", "2 2 2 2 2 2 2 2", "4 2 4 2 4", "2 2 2 2 4 4", "4 4 2 2 2 2"};
        for (String sizes : full) {
            String word = sizes.replace(" ", "").replaceAll(".", "1");
            check.due("256", check.sound("code a on " + sizes + ": " + word, 1).about(0, 1), 256);
            for (int more = 2; more <= 4; more++) {
                check.faulty("code a on " + sizes + " " + more, 4, 11 + sizes.length());
            }
        }
        check.due("243", check.sound("code a on 3 3 3 3 3: 22222", 1).about(0, 1), 243);
        check.faulty("code a on 3 3 3 3 3 2", 4, 20);
        check.due("192", check.sound("code a on 4 4 4 3: 0000", 1).about(0, 1), 192);
        check.faulty("code a on 4 4 4 3 2", 4, 18);
        check.due("144", check.sound("code a on 3 3 4 4: 0000", 1).about(0, 1), 144);
        check.faulty("code a on 3 3 4 4 2", 4, 18);
        check.due("216", check.sound("code a on 3 3 3 4 2: 00000", 1).about(0, 1), 216);
        check.due("128 and 2", check.sound("code a on 4 4 4 2 2: 00000", 1).about(0, 1), 256);
        check.faulty("code a on 4 4 4 2 3", 4, 18);
        check.faulty("code a on 4 4 4 2 4", 4, 18);
        check.due("81 and 3", check.sound("code a on 3 3 3 3 3: 00000", 1).about(0, 1), 243);
        check.faulty("code a on 3 3 3 3 4", 4, 18);
    }
}
