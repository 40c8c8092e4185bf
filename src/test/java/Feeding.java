/** Texts as the numbers that feed() takes. */
final class Feeding {
    private Feeding() { }

    /** The bytes (chars 0 to 255), filled up with blanks to whole feeds, five numbers each. */
    static int[] numbers(String bytes) {
        StringBuilder full = new StringBuilder(bytes);
        while (full.length() % 20 != 0) full.append(' ');
        int[] n = new int[full.length() / 4];
        for (int k = 0; k < full.length(); k++) n[k / 4] = n[k / 4] << 8 | full.charAt(k);
        return n;
    }

    static int feed(SlipCovers x, String bytes) {
        int[] n = numbers(bytes);
        int last = x.bytes();
        for (int k = 0; k < n.length; k += 5) last = x.feed(n[k], n[k + 1], n[k + 2], n[k + 3], n[k + 4]);
        return last;
    }

    static int text(SlipCovers x, String bytes) {
        feed(x, bytes);
        return x.text(bytes.length());
    }

    /** A new object with these codes. */
    static SlipCovers of(String text) {
        SlipCovers x = new SlipCovers();
        if (text(x, text) < 1) throw new AssertionError("no such text: " + text);
        return x;
    }
}
