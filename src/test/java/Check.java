import java.util.HashSet;
import java.util.Set;

/** Counts the answers that are not as due, each under the sentence of the document that it tests. */
final class Check {
    private String sentence = "";
    private final Set<String> sentences = new HashSet<>();
    private int answers = 0;
    private int wrong = 0;

    /** What follows tests this sentence. */
    void of(String text) {
        sentence = text;
        sentences.add(text);
    }

    void due(String what, long got, long want) {
        answers++;
        if (got == want) return;
        wrong++;
        if (wrong <= 60) System.out.println("[" + sentence + "] " + what + " answered " + got + ", due is " + want);
    }

    void due(String what, boolean got, boolean want) {
        due(what, got ? 1 : 0, want ? 1 : 0);
    }

    void due(String what, String got, String want) {
        answers++;
        if (got.equals(want)) return;
        wrong++;
        if (wrong <= 60) System.out.println("[" + sentence + "] " + what + "\n  is  " + got + "\n  due " + want);
    }

    /** The call of this answer was not refused. */
    void fine(SlipCovers x, String what, long got, long want) {
        due(what, got, want);
        due(what + ", trouble", x.trouble(), 0);
        due(what + ", where", x.where(), -1);
    }

    /** The call of this answer was refused by a number (not by 4). */
    void refused(SlipCovers x, String what, long got, int number) {
        due(what, got, -1);
        due(what + ", trouble", x.trouble(), number);
        due(what + ", where", x.where(), -1);
    }

    void refused(SlipCovers x, String what, boolean got, int number) {
        refused(x, what, got ? 1 : -1, number);
    }

    /** A text that is sound, told to a new object: how many codes. */
    SlipCovers sound(String text, int codes) {
        SlipCovers x = new SlipCovers();
        fine(x, "[" + text + "]", Feeding.text(x, text), codes);
        due("[" + text + "], fault", x.fault(), 0);
        return x;
    }

    /** A text with a fault at a place. */
    void faulty(String text, int fault, int where) {
        SlipCovers x = new SlipCovers();
        faulty(x, text, fault, where);
    }

    void faulty(SlipCovers x, String text, int fault, int where) {
        due("[" + text + "]", Feeding.text(x, text), -1);
        due("[" + text + "], trouble", x.trouble(), 4);
        due("[" + text + "], fault", x.fault(), fault);
        due("[" + text + "], where", x.where(), where);
    }

    void codewords(SlipCovers x, String what, int c, int... words) {
        due(what + ", how many codewords", x.about(c, 2), words.length);
        for (int k = 0; k < words.length; k++) due(what + ", codeword " + k, x.word(c, k), words[k]);
        due(what + ", no more codewords", x.word(c, words.length), -2);
    }

    /** A size and a weight for each place. */
    void places(SlipCovers x, String what, int c, int... sizesAndWeights) {
        due(what + ", how many places", x.about(c, 0), sizesAndWeights.length / 2);
        for (int k = 0; k < sizesAndWeights.length; k++) {
            due(what + ", place " + k / 2, x.place(c, k / 2, k % 2), sizesAndWeights[k]);
        }
    }

    void end() {
        System.out.println(sentences.size() + " sentences, " + answers + " answers, " + wrong + " not as due");
        if (wrong != 0) System.exit(1);
    }
}
