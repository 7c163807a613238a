/** Promises 17 to 24: push, pull, word, value, shorter, normal, fits, parts. */
public final class WordsTest {
    private static final int H = 0, T = 1, S = 2, X = 3, Z = 4, W = 5, U = 6;
    private static final Due due = new Due();

    public static void main(String[] args) {
        pushAndPull();
        word();
        value();
        shorter();
        normal();
        normalByPrices();
        normalFull();
        fits();
        parts();
        wrong();
        due.end();
    }

    private static RootGates with(String... words) {
        RootGates g = new RootGates();
        for (int word = 0; word < words.length; word++) {
            for (char c : words[word].toCharArray()) {
                g.push(word, Bench.gate(c));
            }
        }
        return g;
    }

    private static void isWord(String what, RootGates g, int word, String want) {
        String got = Bench.word(g, word);
        due.isTrue(what + ": word is " + got + ", due is " + want, got.equals(want));
    }

    private static void pushAndPull() {
        RootGates g = new RootGates();
        due.is("pull of none", g.pull(1), RootGates.NOT);
        for (int i = 0; i < 60; i++) {
            due.is("push", g.push(1, i % 7), i + 1);
        }
        due.is("push of one more", g.push(1, 0), RootGates.FULL);
        due.is("BAD ahead of FULL", g.push(1, 7), RootGates.BAD);
        due.is("it stays", g.word(1, -1), 60);
        due.is("other words stay", g.word(0, -1) + g.word(2, -1), 0);
        for (int i = 59; i >= 0; i--) {
            due.is("pull", g.pull(1), i % 7);
            due.is("so many", g.word(1, -1), i);
        }
        due.is("pull of none again", g.pull(1), RootGates.NOT);
        due.is("push again", g.push(1, U), 1);
    }

    private static void word() {
        RootGates g = with("HTSXZWU", "", "UU");
        for (int i = 0; i < 7; i++) {
            due.is("word(0, i)", g.word(0, i), i);
            g.price(i, i + 1);
        }
        due.is("behind its end", g.word(0, 7), RootGates.NOT);
        due.is("behind its end", g.word(1, 0), RootGates.NOT);
        due.is("far behind its end", g.word(0, Integer.MAX_VALUE), RootGates.NOT);
        due.is("how many", g.word(0, -1), 7);
        due.is("how many", g.word(1, -1), 0);
        due.is("cost", g.word(0, -2), 28);
        due.is("cost of none", g.word(1, -2), 0);
        g.price(U, 9);
        due.is("cost then", g.word(2, -2), 18);
        due.is("i below -2", g.word(0, -3), RootGates.BAD);
        due.is("i far below", g.word(0, Integer.MIN_VALUE), RootGates.BAD);
    }

    private static void value() {
        RootGates g = with("HT", "", "HHHTTH");
        g.gate(3, H);
        due.is("value(0, 0)", g.value(0, 0), 1);
        due.is("the first gate ahead", g.part(0, 0, 1, 1), 1);
        due.is("the first gate ahead", g.part(0, 1, 0, 0), 1);
        due.is("the first gate ahead", g.part(0, 1, 0, 1), 0);
        due.is("value of none", g.value(3, 1), 0);
        due.is("of none", g.clifford(3), 0);
        due.is("value(3, 2)", g.value(3, 2), 1);
        Bench.make(g, 1, "HSH");
        due.is("H S H", g.phase(3, 1), 0);
    }

    private static void isShorter(String word, String want) {
        RootGates g = with("X", word);
        int changes = g.told(0);
        g.value(0, 1);
        due.is("shorter of " + word, g.shorter(1), want.length());
        isWord("shorter of " + word, g, 1, want);
        isWord("another word", g, 0, "X");
        g.value(1, 1);
        due.is("same value", g.phase(0, 1), 0);
        due.is("a change", g.told(0), word.equals(want) ? changes : Math.min(changes + 1, 8));
    }

    private static void shorter() {
        isShorter("", "");
        isShorter("H", "H");
        isShorter("HH", "");
        isShorter("XX", "");
        isShorter("ZZ", "");
        isShorter("TU", "");
        isShorter("UT", "");
        isShorter("WWWWWWWW", "");
        isShorter("WWWWWWW", "WWWWWWW");
        isShorter("WWWWWWWWW", "W");
        isShorter("WWWWHWWWW", "WWWWHWWWW");
        isShorter("WWWWHHWWWW", "");
        isShorter("TT", "S");
        isShorter("UU", "SZ");
        isShorter("SS", "Z");
        isShorter("SU", "T");
        isShorter("US", "T");
        isShorter("ST", "ST");
        isShorter("TS", "TS");
        isShorter("XZ", "XZ");
        // the first place from the left goes ahead
        isShorter("TTT", "ST");
        isShorter("UUU", "SZU");
        isShorter("UUT", "SZT");
        isShorter("SSU", "ZU");
        isShorter("SSS", "ZS");
        isShorter("USU", "");
        isShorter("SUS", "TS");
        isShorter("UTT", "T");
        isShorter("HTUH", "");
        isShorter("TTTTTTTT", "");
        isShorter("UUUU", "SZSZ");
        isShorter("XHTSUUHX", "XHTHX");
        isShorter("W".repeat(60), "WWWW");
        isShorter("H".repeat(60), "");
        isShorter("U".repeat(60), "SZ".repeat(30));
    }

    private static void isNormal(String gates, String want) {
        RootGates g = new RootGates();
        g.push(1, X);
        Bench.make(g, 2, gates);
        due.is("normal of " + gates, g.normal(1, 2), want.length());
        isWord("normal of " + gates, g, 1, want);
        g.value(0, 1);
        due.is("same value", g.phase(0, 2), 0);
        due.is("a change", g.told(0), want.equals("X") ? 1 : 2);
    }

    private static void normal() {
        isNormal("", "");
        isNormal("H", "H");
        isNormal("X", "X");
        isNormal("HZH", "X");
        isNormal("T", "T");
        isNormal("HT", "HT");
        isNormal("SHT", "SHT");
        isNormal("U", "TSZ");
        isNormal("TT", "S");
        isNormal("TTT", "TS");
        isNormal("THT", "THT");
        isNormal("THTSHTHTS", "THTSHTHTS");
        isNormal("HTXHT", "HTHTZ");
        isNormal("UHT", "TSHTSZXW");
        isNormal("HTHHHSHTSS", "HTSHTXZ");
        isNormal("WWTWHTW", "THTXZXZ");
        isNormal("XTXHTZUHT", "XS");
        isNormal("HT".repeat(20), "HT".repeat(20));
    }

    /** What is left goes by its cheapest word for the prices of now. */
    private static void normalByPrices() {
        RootGates g = new RootGates();
        Bench.make(g, 0, "THTZ");
        due.is("Z", g.normal(0, 0), 4);
        g.price(Z, 5);
        due.is("S S", g.normal(0, 0), 5);
        isWord("S S", g, 0, "THTSS");
        g.price(Z, 2);
        due.is("Z again", g.normal(0, 0), 4);
        isWord("Z again", g, 0, "THTZ");
    }

    private static void normalFull() {
        RootGates g = new RootGates();
        Bench.make(g, 0, "HT".repeat(30));
        due.is("60 gates", g.normal(0, 0), 60);
        g.gate(0, X);
        due.is("61 gates", g.normal(0, 0), RootGates.FULL);
        due.is("it stays", g.word(0, -1), 60);
        due.is("no change", g.told(0), 1);
        g.gate(0, X);
        g.gate(0, H);
        g.gate(0, T);
        due.is("62 gates", g.normal(1, 0), RootGates.FULL);
        due.is("it stays", g.word(1, -1), 0);
        Bench.make(g, 1, "HT".repeat(79));
        due.is("far too many", g.normal(1, 1), RootGates.FULL);
        due.is("BAD ahead of FULL", g.normal(3, 1), RootGates.BAD);
    }

    private static void fits() {
        RootGates g = with("HTSHTH", "X");
        g.value(0, 0);
        due.is("the gate that is there", g.fits(0, 0, 0), 1 << H);
        due.is("the gate that is there", g.fits(0, 1, 0), 1 << T);
        due.is("the gate that is there", g.fits(0, 2, 0), 1 << S);
        due.is("the gate that is there", g.fits(0, 5, 0), 1 << H);
        due.is("no such place", g.fits(0, 6, 0), RootGates.BAD);
        due.is("no such place", g.fits(2, 0, 0), RootGates.BAD);
        Bench.make(g, 1, "HTUHTH");
        due.is("another gate", g.fits(0, 2, 1), 1 << U);
        due.is("none at another place", g.fits(0, 1, 1), 0);
        for (int gate = 0; gate < 7; gate++) {
            g.one(2);
            g.gate(2, gate);
            due.is("of one gate", g.fits(1, 0, 2), 1 << gate);
        }
        g.gate(0, W);
        due.is("no phase", g.fits(0, 0, 0), 0);
        isWord("the word stays", g, 0, "HTSHTH");
        due.is("no changes", g.told(0), 7);
    }

    private static void isParts(String one, String other, int place) {
        RootGates g = with(one, other);
        due.is("parts of " + one + " and " + other, g.parts(0, 1), place);
        due.is("parts of " + other + " and " + one, g.parts(1, 0), place);
        due.is("parts of one and itself", g.parts(0, 0), RootGates.NOT);
    }

    private static void parts() {
        isParts("", "", RootGates.NOT);
        isParts("H", "H", RootGates.NOT);
        isParts("H", "T", 0);
        isParts("HT", "HS", 1);
        isParts("HTT", "HSX", 1);
        isParts("HT", "H", 1);
        isParts("", "X", 0);
        isParts("TTTT", "TTTU", 3);
        // parted on the way, though the same in the end
        isParts("TT", "S", 0);
        isParts("HXX", "H", 1);
        isParts("ZW", "WZ", 0);
        isParts("WWWW", "XWWWW", 0);
        RootGates g = with("HTH".repeat(20), "HTH".repeat(20), "X");
        due.is("long ones", g.parts(0, 1), RootGates.NOT);
        g.pull(1);
        due.is("at the end", g.parts(0, 1), 59);
    }

    private static void wrong() {
        RootGates g = with("HT", "HT", "HT");
        for (int bad : Bench.NO_WORDS) {
            due.is("push", g.push(bad, 0), RootGates.BAD);
            due.is("pull", g.pull(bad), RootGates.BAD);
            due.is("word", g.word(bad, -1), RootGates.BAD);
            due.is("value", g.value(0, bad), RootGates.BAD);
            due.is("shorter", g.shorter(bad), RootGates.BAD);
            due.is("normal", g.normal(bad, 0), RootGates.BAD);
            due.is("fits", g.fits(bad, 0, 0), RootGates.BAD);
            due.is("parts", g.parts(bad, 0), RootGates.BAD);
            due.is("parts", g.parts(0, bad), RootGates.BAD);
        }
        for (int bad : Bench.NO_REGISTERS) {
            due.is("value r", g.value(bad, 0), RootGates.BAD);
            due.is("normal r", g.normal(0, bad), RootGates.BAD);
            due.is("fits r", g.fits(0, 0, bad), RootGates.BAD);
        }
        for (int bad : Bench.NO_GATES) {
            due.is("push gate", g.push(0, bad), RootGates.BAD);
            due.is("fits i", g.fits(0, bad, 0), RootGates.BAD);
        }
        due.is("all as it was", g.told(0), 6);
    }
}
