/** Each sentence that names a boundary, promises 25 and 29 to 31: undo, image, restore, told. */
public final class BoundsOfChangesTest {
    private static final int H = 0, T = 1, S = 2, X = 3, Z = 4, W = 5, U = 6;
    private static final Due due = new Due();

    public static void main(String[] args) {
        undoOfNone();
        undoOfEachCall();
        undoOfNothingElse();
        upToEight();
        eldestIsNone();
        latestFirst();
        oneRowOfChanges();
        noChangeIfTheSame();
        noChangeIfRefused();
        undoIsNoChange();
        undoToNoneAndTo60();
        restoreLeavesNone();
        imageKeepsChanges();
        imageOfNoneAndAll();
        imageOfWhat();
        imageIsTakenAnew();
        imageStaysByItself();
        restoreOfNone();
        restoreOfAll();
        restoreLeavesTape();
        restoreAgain();
        toldOfEach();
        toldOfMost();
        toldRefused();
        due.end();
    }

    private static void undoOfNone() {
        RootGates g = new RootGates();
        due.about(25, "STATE: there is none.");
        due.is("undo() of a new object", g.undo(), RootGates.STATE);
        g.push(0, H);
        due.is("undo()", g.undo(), 0);
        due.is("undo() of no more", g.undo(), RootGates.STATE);
        due.is("undo() once more", g.undo(), RootGates.STATE);
        due.is("word 0", g.word(0, -1), 0);
    }

    private static void undoOfEachCall() {
        due.about(25, "what push(), pull(), shorter(), normal(), write() (of a WORD) made otherwise can be UNDONE");
        RootGates g = new RootGates();
        g.push(1, H);
        due.is("undo() of push()", g.undo(), 0);
        due.isText("word 1", Bench.word(g, 1), "");
        Bench.write(g, 1, "HTU");
        due.is("undo() of write()", g.undo(), 0);
        due.isText("word 1", Bench.word(g, 1), "");
        Bench.write(g, 1, "HTU");
        g.pull(1);
        due.is("undo() of pull()", g.undo(), 1);
        due.isText("word 1", Bench.word(g, 1), "HTU");
        g.shorter(1);
        due.isText("word 1", Bench.word(g, 1), "H");
        due.is("undo() of shorter()", g.undo(), 1);
        due.isText("word 1", Bench.word(g, 1), "HTU");
        g.normal(1, 0);
        due.isText("word 1", Bench.word(g, 1), "");
        due.is("undo() of normal()", g.undo(), 1);
        due.isText("word 1", Bench.word(g, 1), "HTU");
        Bench.write(g, 1, "X");
        due.is("undo() of write() again", g.undo(), 1);
        due.isText("word 1", Bench.word(g, 1), "HTU");
    }

    private static void undoOfNothingElse() {
        RootGates g = Bench.with("HT");
        due.about(25, "what push(), pull(), shorter(), normal(), write() (of a WORD) made otherwise can be UNDONE");
        g.price(H, 9);
        g.gate(0, H);
        g.value(1, 0);
        g.take(2, 100);
        g.feed('H');
        g.image();
        due.is("changes", g.told(0), 2);
        due.is("undo()", g.undo(), 1);
        due.isText("word 0", Bench.word(g, 0), "H");
        due.is("price of H stays", g.price(H, 9), 9);
        due.is("register 0 stays", g.e(0), 1);
        due.is("register 1 stays", g.e(1), 1);
        due.is("register 2 stays", g.clifford(2), 100);
        due.is("the tape stays", g.told(1), 1);
    }

    private static void upToEight() {
        RootGates g = new RootGates();
        due.about(25, "the latest first, 8 at most (then the eldest is none any more)");
        for (int i = 1; i <= 8; i++) {
            g.push(0, i % 7);
            due.is("changes", g.told(0), i);
        }
        for (int i = 7; i >= 0; i--) {
            due.is("undo()", g.undo(), i);
            due.is("how many", g.word(0, -1), i);
        }
        due.is("undo() of no more", g.undo(), RootGates.STATE);
    }

    private static void eldestIsNone() {
        RootGates g = new RootGates();
        due.about(25, "8 at most (then the eldest is none any more)");
        for (int i = 1; i <= 9; i++) {
            g.push(2, i % 7);
        }
        due.is("changes", g.told(0), 8);
        for (int i = 7; i >= 0; i--) {
            due.is("undo()", g.undo(), i);
        }
        due.is("undo() of the eldest", g.undo(), RootGates.STATE);
        due.isText("it stays", Bench.word(g, 2), "T");
        for (int i = 0; i < 30; i++) {
            g.push(2, i % 7);
        }
        due.is("changes of 30", g.told(0), 8);
        for (int i = 7; i >= 0; i--) {
            due.is("undo()", g.undo(), i);
            due.is("how many", g.word(2, -1), 23 + i);
        }
        due.is("undo() of no more", g.undo(), RootGates.STATE);
    }

    private static void latestFirst() {
        RootGates g = new RootGates();
        due.about(25, "The latest CHANGE is UNDONE: how many can still be.");
        Bench.write(g, 0, "H");
        Bench.write(g, 0, "TT");
        Bench.write(g, 0, "SSS");
        due.is("undo()", g.undo(), 2);
        due.isText("word 0", Bench.word(g, 0), "TT");
        due.is("undo()", g.undo(), 1);
        due.isText("word 0", Bench.word(g, 0), "H");
        Bench.write(g, 0, "XXXX");
        due.is("undo() of a new one", g.undo(), 1);
        due.isText("word 0", Bench.word(g, 0), "H");
        due.is("undo()", g.undo(), 0);
        due.isText("word 0", Bench.word(g, 0), "");
    }

    private static void oneRowOfChanges() {
        RootGates g = new RootGates();
        due.about(25, "CHANGES of one WORD and another stand in one row, as they came.");
        g.push(0, H);
        g.push(2, T);
        g.push(1, S);
        g.push(2, X);
        due.is("undo()", g.undo(), 3);
        due.isText("word 2", Bench.word(g, 2), "T");
        due.is("undo()", g.undo(), 2);
        due.isText("word 1", Bench.word(g, 1), "");
        due.isText("word 2 stays", Bench.word(g, 2), "T");
        due.is("undo()", g.undo(), 1);
        due.isText("word 2", Bench.word(g, 2), "");
        due.isText("word 0 stays", Bench.word(g, 0), "H");
        for (int i = 0; i < 8; i++) {
            g.push(i % 2 + 1, Z);
        }
        for (int i = 7; i >= 0; i--) {
            due.is("undo()", g.undo(), i);
        }
        due.is("the eldest, of another WORD, is none", g.undo(), RootGates.STATE);
        due.isText("word 0", Bench.word(g, 0), "H");
    }

    private static void noChangeIfTheSame() {
        RootGates g = new RootGates();
        due.about(25, "A call by which a WORD is what it was is no CHANGE.");
        g.shorter(0);
        g.normal(0, 0);
        Bench.write(g, 0, "(X)0");
        due.is("of none", g.told(0), 0);
        due.is("undo()", g.undo(), RootGates.STATE);
        Bench.write(g, 0, "HT");
        Bench.make(g, 0, "HT");
        due.is("shorter(0)", g.shorter(0), 2);
        due.is("normal(0, 0)", g.normal(0, 0), 2);
        due.is("write(0)", Bench.write(g, 0, "~~(HT)"), 2);
        due.is("changes", g.told(0), 1);
        due.is("undo()", g.undo(), 0);
        due.isText("word 0", Bench.word(g, 0), "");
        due.about(25, "A call by which a WORD is what it was is no CHANGE.");
        // of like length, but otherwise
        Bench.write(g, 1, "HT");
        Bench.write(g, 1, "HS");
        due.is("changes", g.told(0), 2);
        g.undo();
        due.isText("word 1", Bench.word(g, 1), "HT");
        // as long, and the same but for the last gate that went
        g.pull(1);
        due.is("changes", g.told(0), 2);
    }

    private static void noChangeIfRefused() {
        RootGates g = Bench.with("", "H".repeat(60));
        due.about(25, "nothing changes but where it is told");
        g.push(1, H);
        g.pull(0);
        g.push(0, 7);
        g.push(3, 0);
        g.shorter(3);
        g.normal(3, 0);
        Bench.makeHighest(g, 0, 1);
        g.normal(0, 0);
        Bench.write(g, 0, "H)");
        Bench.write(g, 0, "~~~W");
        due.is("changes", g.told(0), 8);
        due.is("undo()", g.undo(), 7);
        due.is("word 1", g.word(1, -1), 59);
        RootGates other = new RootGates();
        other.pull(0);
        other.push(0, 7);
        Bench.write(other, 0, "H)");
        Bench.write(other, 0, "~~~W");
        due.is("changes", other.told(0), 0);
    }

    private static void undoIsNoChange() {
        RootGates g = Bench.with("HT");
        due.about(25, "The latest CHANGE is UNDONE: how many can still be.");
        due.is("undo()", g.undo(), 1);
        due.is("changes", g.told(0), 1);
        due.is("undo()", g.undo(), 0);
        due.is("changes", g.told(0), 0);
        due.isText("word 0", Bench.word(g, 0), "");
    }

    private static void undoToNoneAndTo60() {
        RootGates g = Bench.with("", "", "HTSX".repeat(15));
        due.about(25, "rows of GATES (60 at most; none at first)");
        Bench.write(g, 2, "(H)0");
        due.is("of none", g.word(2, -1), 0);
        g.undo();
        due.isText("of 60", Bench.word(g, 2), "HTSX".repeat(15));
        g.pull(2);
        g.undo();
        due.isText("of 60", Bench.word(g, 2), "HTSX".repeat(15));
        due.is("push", g.push(2, H), RootGates.FULL);
    }

    private static void restoreLeavesNone() {
        RootGates g = Bench.with("HT");
        due.about(25, "restore() leaves none.");
        g.image();
        g.push(0, S);
        due.is("changes ahead", g.told(0), 3);
        g.restore();
        due.is("changes", g.told(0), 0);
        due.is("undo()", g.undo(), RootGates.STATE);
        due.isText("word 0", Bench.word(g, 0), "HT");
        g.push(0, X);
        due.is("undo() of one behind it", g.undo(), 0);
        due.isText("word 0", Bench.word(g, 0), "HT");
    }

    private static void imageKeepsChanges() {
        RootGates g = Bench.with("HT");
        due.about(29, "THE IMAGE is taken: all GATES of all WORDS.");
        due.is("image()", g.image(), 2);
        due.is("changes", g.told(0), 2);
        due.is("undo()", g.undo(), 1);
        due.isText("word 0", Bench.word(g, 0), "H");
        due.is("restore()", g.restore(), 2);
    }

    private static void imageOfNoneAndAll() {
        due.about(29, "image(), restore() answer how many GATES there are.");
        RootGates g = new RootGates();
        due.is("image() of none", g.image(), 0);
        due.is("restore() of none", g.restore(), 0);
        Bench.push(g, 0, "H".repeat(60));
        Bench.push(g, 1, "T".repeat(60));
        Bench.push(g, 2, "S".repeat(60));
        due.is("image() of all", g.image(), 180);
        g.pull(1);
        due.is("image() of one less", g.image(), 179);
        due.about(30, "image(), restore() answer how many GATES there are.");
        g.push(1, T);
        due.is("restore() of one less", g.restore(), 179);
        due.is("word 1", g.word(1, -1), 59);
    }

    private static void imageOfWhat() {
        due.about(29, "THE IMAGE: REGISTERS, WORDS, PRICES.");
        RootGates g = Bench.with("H", "T", "S");
        for (int r = 0; r < 4; r++) {
            g.take(r, r + 100);
        }
        for (int gate = 0; gate < 7; gate++) {
            g.price(gate, gate + 2);
        }
        due.is("image()", g.image(), 3);
        for (int r = 0; r < 4; r++) {
            g.take(r, 5);
        }
        for (int gate = 0; gate < 7; gate++) {
            g.price(gate, 0);
        }
        Bench.push(g, 0, "X");
        g.pull(1);
        Bench.push(g, 2, "ZZ");
        due.about(30, "THE IMAGE: REGISTERS, WORDS, PRICES.");
        due.is("restore()", g.restore(), 3);
        for (int r = 0; r < 4; r++) {
            due.is("register " + r, g.clifford(r), r + 100);
        }
        for (int gate = 0; gate < 7; gate++) {
            due.is("price of gate " + gate, g.price(gate, 0), gate + 2);
        }
        due.isText("word 0", Bench.word(g, 0), "H");
        due.isText("word 1", Bench.word(g, 1), "T");
        due.isText("word 2", Bench.word(g, 2), "S");
    }

    private static void imageIsTakenAnew() {
        RootGates g = Bench.with("H");
        due.about(29, "THE IMAGE is taken: all GATES of all WORDS.");
        due.is("image()", g.image(), 1);
        g.push(0, T);
        due.is("image() again", g.image(), 2);
        g.push(0, S);
        due.is("restore()", g.restore(), 2);
        due.isText("word 0", Bench.word(g, 0), "HT");
    }

    private static void imageStaysByItself() {
        RootGates g = Bench.with("HT");
        due.about(29, "THE IMAGE is taken: all GATES of all WORDS.");
        g.image();
        g.undo();
        g.undo();
        g.gate(0, H);
        due.is("restore() behind undo()", g.restore(), 2);
        due.isText("word 0", Bench.word(g, 0), "HT");
        due.is("register 0", g.e(0), 0);
    }

    private static void restoreOfNone() {
        RootGates g = Bench.with("HT");
        due.about(30, "STATE: there is none.");
        g.feed('H');
        g.gate(0, H);
        due.is("restore()", g.restore(), RootGates.STATE);
        due.isText("word 0", Bench.word(g, 0), "HT");
        due.is("changes", g.told(0), 2);
        due.is("bytes", g.told(1), 1);
        due.is("register 0", g.e(0), 1);
    }

    private static void restoreOfAll() {
        RootGates g = new RootGates();
        due.about(30, "All is as THE IMAGE: all GATES of all WORDS.");
        Bench.makeHighest(g, 1, 2);
        String held = Bench.table(g, 1);
        g.image();
        g.one(1);
        g.gate(3, T);
        g.price(Z, 9);
        due.is("cheapest by 9", g.cheapest(7, -1), 2);
        due.is("restore()", g.restore(), 0);
        due.isText("register 1", Bench.table(g, 1), held);
        due.is("register 3", g.clifford(3), 0);
        due.is("cheapest by 1", g.cheapest(7, -1), 1);
        due.is("cost by 1", g.cheapest(7, -2), 1);
    }

    private static void restoreLeavesTape() {
        RootGates g = new RootGates();
        due.about(30, "restore() leaves THE TAPE.");
        g.feed('X');
        g.image();
        Bench.feed(g, "HT");
        g.restore();
        due.is("bytes", g.told(1), 3);
        due.is("write(0)", g.write(0), 3);
        due.isText("word 0", Bench.word(g, 0), "XHT");
        g.restore();
        due.is("bytes", g.told(1), 0);
    }

    private static void restoreAgain() {
        RootGates g = Bench.with("HT");
        due.about(30, "All is as THE IMAGE: all GATES of all WORDS.");
        g.image();
        for (int i = 0; i < 3; i++) {
            g.push(0, S);
            g.push(1, X);
            g.gate(0, H);
            due.is("restore()", g.restore(), 2);
            due.isText("word 0", Bench.word(g, 0), "HT");
            due.isText("word 1", Bench.word(g, 1), "");
            due.is("register 0", g.e(0), 0);
        }
        due.is("restore() with nothing between", g.restore(), 2);
    }

    private static void toldOfEach() {
        RootGates g = new RootGates();
        due.about(31, "0 CHANGES that can be UNDONE, 1 bytes of THE TAPE, 2 PRICES together, "
            + "3 .. 9 how many GATES 0 .. 6 stand in all WORDS.");
        for (int what = 0; what < 10; what++) {
            due.is("told(" + what + ") at first", g.told(what), what == 2 ? 7 : 0);
        }
        Bench.write(g, 0, "HTTSSS");
        Bench.write(g, 1, "XXXXZZZZZHH");
        Bench.write(g, 2, "WWWWWWUUUUUUUH");
        int[] gates = {4, 2, 3, 4, 5, 6, 7};
        for (int gate = 0; gate < 7; gate++) {
            due.is("told(" + (gate + 3) + ")", g.told(gate + 3), gates[gate]);
        }
        Bench.feed(g, "HT~(");
        g.price(W, 0);
        g.price(H, 8);
        due.is("told(0)", g.told(0), 3);
        due.is("told(1)", g.told(1), 4);
        due.is("told(2)", g.told(2), 13);
    }

    private static void toldOfMost() {
        RootGates g = new RootGates();
        due.about(31, "3 .. 9 how many GATES 0 .. 6 stand in all WORDS");
        for (int word = 0; word < 3; word++) {
            Bench.write(g, word, "((U)6)9(U)6");
        }
        due.is("told(9)", g.told(9), 180);
        due.is("told(3)", g.told(3), 0);
        due.about(31, "2 PRICES together");
        for (int gate = 0; gate < 7; gate++) {
            g.price(gate, 9);
        }
        due.is("told(2) at most", g.told(2), 63);
        for (int gate = 0; gate < 7; gate++) {
            g.price(gate, 0);
        }
        due.is("told(2) at least", g.told(2), 0);
        due.about(31, "1 bytes of THE TAPE");
        Bench.feed(g, "H".repeat(81));
        due.is("told(1) at most", g.told(1), 80);
        due.about(31, "0 CHANGES that can be UNDONE");
        for (int i = 0; i < 9; i++) {
            g.pull(0);
        }
        due.is("told(0) at most", g.told(0), 8);
    }

    private static void toldRefused() {
        RootGates g = new RootGates();
        due.about(31, "3 .. 9 how many GATES 0 .. 6 stand in all WORDS. BAD.");
        for (int bad : new int[] {-1, 10, 11, -2, Integer.MIN_VALUE, Integer.MIN_VALUE + 2, Integer.MAX_VALUE}) {
            due.is("told(" + bad + ")", g.told(bad), RootGates.BAD);
        }
    }
}
