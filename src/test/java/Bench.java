/** What several tests do with an object: words told in letters, and read in letters. */
final class Bench {
    static final String LETTERS = "HTSXZWU";
    static final int[] NO_REGISTERS = {-1, 4, 5, Integer.MIN_VALUE, Integer.MAX_VALUE};
    static final int[] NO_GATES = {-1, 7, 8, Integer.MIN_VALUE, Integer.MAX_VALUE};
    static final int[] NO_WORDS = {-1, 3, 4, Integer.MIN_VALUE, Integer.MAX_VALUE};
    static final int[] NO_CLIFFORDS = {-1, 192, 193, Integer.MIN_VALUE, Integer.MAX_VALUE};

    private Bench() {
    }

    static int gate(char letter) {
        return LETTERS.indexOf(letter);
    }

    /** What write() answers to a text. */
    static int write(RootGates g, int word, String text) {
        feed(g, text);
        return g.write(word);
    }

    static void feed(RootGates g, String text) {
        for (char c : text.toCharArray()) {
            g.feed(c);
        }
    }

    static String word(RootGates g, int word) {
        StringBuilder text = new StringBuilder();
        int gate = g.word(word, 0);
        for (int i = 1; gate >= 0; i++) {
            text.append(LETTERS.charAt(gate));
            gate = g.word(word, i);
        }
        return text.toString();
    }

    static String cheapest(RootGates g, int k) {
        StringBuilder text = new StringBuilder();
        int gate = g.cheapest(k, 0);
        for (int i = 1; gate >= 0; i++) {
            text.append(LETTERS.charAt(gate));
            gate = g.cheapest(k, i);
        }
        return text.toString();
    }

    /** E and all parts of a register, row by row. */
    static String table(RootGates g, int r) {
        StringBuilder text = new StringBuilder().append(g.e(r)).append(':');
        for (int i = 0; i < 16; i++) {
            text.append(i % 4 == 0 ? " | " : " ").append(g.part(r, i / 8, i / 4 % 2, i % 4));
        }
        return text.toString();
    }

    /** A new object whose words are these. */
    static RootGates with(String... words) {
        RootGates g = new RootGates();
        for (int word = 0; word < words.length; word++) {
            push(g, word, words[word]);
        }
        return g;
    }

    static void push(RootGates g, int word, String gates) {
        for (char c : gates.toCharArray()) {
            g.push(word, gate(c));
        }
    }

    /** A register becomes the product of gates told in letters. */
    static void make(RootGates g, int r, String gates) {
        g.one(r);
        for (char c : gates.toCharArray()) {
            g.gate(r, gate(c));
        }
    }

    /** Registers become H T, 79 times, whose E is 40 and by H behind it would be 41, in few calls; another one 1. */
    static void makeHighest(RootGates g, int r, int spare) {
        make(g, spare, "HT".repeat(13));
        g.times(spare, spare, spare);
        g.times(r, spare, spare);
        g.times(r, r, spare);
        g.gate(r, 0);
        g.gate(r, 1);
        g.one(spare);
    }
}
