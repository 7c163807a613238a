/** Promises 25 and 29 to 31: undo, image, restore, told. */
public final class ChangesTest {
    private static final int H = 0, T = 1, S = 2, X = 3, Z = 4, W = 5, U = 6;
    private static final Due due = new Due();

    public static void main(String[] args) {
        undoOfEach();
        eldest();
        rowOfAllWords();
        noChanges();
        image();
        secondImage();
        pricesOfImage();
        told();
        due.end();
    }

    private static void isWord(String what, RootGates g, int word, String want) {
        String got = Bench.word(g, word);
        due.isTrue(what + ": word is " + got + ", due is " + want, got.equals(want));
    }

    private static void undoOfEach() {
        RootGates g = new RootGates();
        due.is("undo of none", g.undo(), RootGates.STATE);
        Bench.write(g, 0, "HTTH");
        g.push(0, X);
        g.pull(0);
        g.pull(0);
        g.shorter(0);
        isWord("shorter", g, 0, "HS");
        Bench.make(g, 1, "SHTX");
        g.normal(0, 1);
        due.is("changes", g.told(0), 6);
        due.is("undo of normal", g.undo(), 5);
        isWord("undo of normal", g, 0, "HS");
        due.is("undo of shorter", g.undo(), 4);
        isWord("undo of shorter", g, 0, "HTT");
        due.is("undo of pull", g.undo(), 3);
        isWord("undo of pull", g, 0, "HTTH");
        due.is("undo of pull", g.undo(), 2);
        isWord("undo of pull", g, 0, "HTTHX");
        due.is("undo of push", g.undo(), 1);
        isWord("undo of push", g, 0, "HTTH");
        due.is("undo of write", g.undo(), 0);
        isWord("undo of write", g, 0, "");
        due.is("undo of none", g.undo(), RootGates.STATE);
        due.is("a register stays", g.count(1), 1);
    }

    private static void eldest() {
        RootGates g = new RootGates();
        for (int i = 1; i <= 20; i++) {
            g.push(2, H);
            due.is("changes", g.told(0), Math.min(i, 8));
        }
        for (int i = 7; i >= 0; i--) {
            due.is("undo", g.undo(), i);
        }
        due.is("undo of none", g.undo(), RootGates.STATE);
        due.is("the elder ones stay", g.word(2, -1), 12);
        g.push(2, T);
        due.is("a change again", g.told(0), 1);
        due.is("undo", g.undo(), 0);
        due.is("so many", g.word(2, -1), 12);
    }

    private static void rowOfAllWords() {
        RootGates g = new RootGates();
        g.push(0, H);
        g.push(1, T);
        g.push(0, S);
        g.push(2, X);
        g.push(1, Z);
        g.undo();
        isWord("1", g, 1, "T");
        isWord("2", g, 2, "X");
        g.undo();
        isWord("2", g, 2, "");
        isWord("0", g, 0, "HS");
        g.undo();
        isWord("0", g, 0, "H");
        g.push(2, W);
        due.is("changes", g.told(0), 3);
        g.undo();
        g.undo();
        isWord("1", g, 1, "");
        isWord("0", g, 0, "H");
        due.is("the last", g.undo(), 0);
        isWord("0", g, 0, "");
    }

    /** Refused calls, and those by which a word is what it was. */
    private static void noChanges() {
        RootGates g = new RootGates();
        g.pull(0);
        g.shorter(0);
        g.normal(0, 0);
        g.push(0, 7);
        Bench.write(g, 0, "(H)0");
        Bench.write(g, 0, "(");
        Bench.write(g, 0, "~~~W");
        due.is("of none", g.told(0), 0);
        g.push(0, H);
        g.shorter(0);
        Bench.write(g, 0, "~H");
        Bench.make(g, 0, "H");
        g.normal(0, 0);
        due.is("of H", g.told(0), 1);
        g.price(H, 5);
        g.one(0);
        g.take(0, 5);
        g.image();
        g.value(2, 0);
        g.wipe();
        due.is("of other calls", g.told(0), 1);
    }

    private static void image() {
        RootGates g = new RootGates();
        due.is("restore of none", g.restore(), RootGates.STATE);
        Bench.make(g, 0, "HTHT");
        g.take(3, 100);
        Bench.write(g, 0, "HTS");
        Bench.write(g, 2, "XX");
        g.price(W, 7);
        due.is("image", g.image(), 5);
        due.is("changes stay by image()", g.told(0), 2);
        g.push(0, U);
        g.pull(2);
        g.push(1, Z);
        g.price(W, 0);
        g.price(H, 2);
        g.one(0);
        g.gate(1, T);
        g.one(3);
        Bench.feed(g, "HH");
        due.is("restore", g.restore(), 5);
        isWord("0", g, 0, "HTS");
        isWord("1", g, 1, "");
        isWord("2", g, 2, "XX");
        due.is("register 0", g.count(0), 2);
        due.is("register 1", g.clifford(1), 0);
        due.is("register 3", g.clifford(3), 100);
        due.is("price of W", g.price(W, 7), 7);
        due.is("price of H", g.price(H, 1), 1);
        due.is("changes", g.told(0), 0);
        due.is("undo", g.undo(), RootGates.STATE);
        due.is("the tape stays", g.told(1), 2);
        due.is("write", g.write(1), 2);
        due.is("restore again", g.restore(), 5);
        isWord("1", g, 1, "");
        due.is("changes", g.told(0), 0);
        g.push(0, H);
        due.is("a change behind restore()", g.undo(), 0);
        isWord("0", g, 0, "HTS");
    }

    private static void secondImage() {
        RootGates g = new RootGates();
        due.is("image of none", g.image(), 0);
        g.push(0, H);
        due.is("image of one", g.image(), 1);
        g.undo();
        due.is("restore", g.restore(), 1);
        isWord("0", g, 0, "H");
    }

    /** Cheapest words follow the prices that restore() brings back. */
    private static void pricesOfImage() {
        RootGates g = new RootGates();
        g.price(Z, 9);
        g.image();
        due.is("cheapest by 9", g.cheapest(7, -1), 2);
        g.price(Z, 1);
        due.is("cheapest by 1", g.cheapest(7, -1), 1);
        g.restore();
        due.is("cheapest by 9 again", g.cheapest(7, -1), 2);
        due.is("cost", g.cheapest(7, -2), 2);
    }

    private static void told() {
        RootGates g = new RootGates();
        Bench.write(g, 0, "HTTSSSXXXX");
        Bench.write(g, 1, "ZZZZZWWWWWW");
        Bench.write(g, 2, "UUUUUUUH");
        int[] due3 = {2, 2, 3, 4, 5, 6, 7};
        for (int gate = 0; gate < 7; gate++) {
            due.is("told(" + (gate + 3) + ")", g.told(gate + 3), due3[gate]);
        }
        due.is("told(0)", g.told(0), 3);
        due.is("told(2)", g.told(2), 7);
        g.price(T, 9);
        g.price(U, 0);
        due.is("told(2)", g.told(2), 14);
        for (int bad : new int[] {-1, 10, -2, Integer.MIN_VALUE, Integer.MAX_VALUE}) {
            due.is("told", g.told(bad), RootGates.BAD);
        }
    }
}
