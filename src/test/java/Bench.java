/** What several tests do with an object: words told in letters, and read in letters. */
final class Bench {
    static final String LETTERS = "HTSXZWU";
    static final int[] NO_REGISTERS = {-1, 4, 5, Integer.MIN_VALUE, Integer.MAX_VALUE};
    static final int[] NO_GATES = {-1, 7, 8, Integer.MIN_VALUE, Integer.MAX_VALUE};
    static final int[] NO_WORDS = {-1, 3, 4, Integer.MIN_VALUE, Integer.MAX_VALUE};
    static final int[] NO_CLIFFORDS = {-1, 192, 193, Integer.MIN_VALUE, Integer.MAX_VALUE};

    private Bench() {
    }

    static int gate(char letter) {
        return LETTERS.indexOf(letter);
    }

    /** What write() answers to a text. */
    static int write(RootGates g, int word, String text) {
        feed(g, text);
        return g.write(word);
    }

    static void feed(RootGates g, String text) {
        for (char c : text.toCharArray()) {
            g.feed(c);
        }
    }

    static String word(RootGates g, int word) {
        StringBuilder text = new StringBuilder();
        for (int i = 0; g.word(word, i) >= 0; i++) {
            text.append(LETTERS.charAt(g.word(word, i)));
        }
        return text.toString();
    }

    static String cheapest(RootGates g, int k) {
        StringBuilder text = new StringBuilder();
        for (int i = 0; g.cheapest(k, i) >= 0; i++) {
            text.append(LETTERS.charAt(g.cheapest(k, i)));
        }
        return text.toString();
    }

    /** A register becomes the product of gates told in letters. */
    static void make(RootGates g, int r, String gates) {
        g.one(r);
        for (char c : gates.toCharArray()) {
            g.gate(r, gate(c));
        }
    }
}
