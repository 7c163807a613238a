/** Each sentence that names a boundary, promises 26 to 28: feed, wipe, write. */
public final class BoundsOfTextsTest {
    private static final Due due = new Due();

    public static void main(String[] args) {
        feedOfBytes();
        feedUpTo80();
        feedRefused();
        wipeOfNoneAndAll();
        oneItemOrMore();
        letters();
        turnedItems();
        turnedOrder();
        turnedS();
        turnedW();
        turnedGroups();
        turnedWithoutGroup();
        groupsOfOneOrMore();
        figures();
        figureOfNothing();
        fourOpen();
        noBlanks();
        faultAtFirstByte();
        faultAtLength();
        faultOfEachByte();
        fullOfText();
        fullOfItem();
        fullOfGroup();
        fullOfTurned();
        fullThoughNothing();
        notFullAheadOfGroup();
        faultAheadOfFull();
        tapeIsEmptied();
        nothingComesToTheNext();
        tapeStays();
        wordIsReplaced();
        writeRefused();
        due.end();
    }

    private static void feedOfBytes() {
        due.about(26, "THE TAPE holds 0 .. 80 bytes 32 .. 126.");
        for (int letter = 0; letter < 256; letter++) {
            RootGates g = new RootGates();
            boolean isByte = letter >= 32 && letter <= 126;
            due.is("feed(" + letter + ")", g.feed(letter), isByte ? 1 : RootGates.BAD);
            due.is("bytes", g.told(1), isByte ? 1 : 0);
        }
    }

    private static void feedUpTo80() {
        RootGates g = new RootGates();
        due.about(26, "A byte comes behind THE TAPE's: how many it has. BAD; FULL: it has 80.");
        for (int i = 1; i <= 80; i++) {
            due.is("feed " + i, g.feed(i < 80 ? '~' : 'T'), i);
        }
        due.is("feed 81", g.feed('H'), RootGates.FULL);
        due.is("feed 81 again", g.feed('H'), RootGates.FULL);
        due.is("bytes", g.told(1), 80);
        due.is("write of the 80", g.write(0), 1);
        due.is("U", g.word(0, 0), 6);
        due.is("feed behind it", g.feed('H'), 1);
    }

    private static void feedRefused() {
        RootGates g = new RootGates();
        due.about(26, "BAD (-1): no such one, a number out of its range.");
        for (int bad : new int[] {31, 127, 128, 255, 256 + 'H', -1, Integer.MIN_VALUE, Integer.MAX_VALUE}) {
            due.is("feed(" + bad + ")", g.feed(bad), RootGates.BAD);
        }
        due.is("bytes", g.told(1), 0);
        Bench.feed(g, "H".repeat(80));
        due.about(26, "of several the first as the call's words name them");
        due.is("feed(31) behind 80", g.feed(31), RootGates.BAD);
        due.is("feed(32) behind 80", g.feed(32), RootGates.FULL);
    }

    private static void wipeOfNoneAndAll() {
        RootGates g = new RootGates();
        due.about(27, "THE TAPE is empty: how many it had.");
        due.is("wipe of none", g.wipe(), 0);
        g.feed('H');
        due.is("wipe of one", g.wipe(), 1);
        due.is("wipe again", g.wipe(), 0);
        Bench.feed(g, "H".repeat(80));
        due.is("wipe of 80", g.wipe(), 80);
        due.is("bytes", g.told(1), 0);
        due.is("feed", g.feed('X'), 1);
        due.is("write of it alone", g.write(0), 1);
        due.is("X", g.word(0, 0), 3);
    }

    private static void isText(String text, String want) {
        RootGates g = Bench.with("", "U");
        due.is("write of " + text, Bench.write(g, 1, text), want.length());
        due.isText(text, Bench.word(g, 1), want);
    }

    private static void isRefused(String text, int answer) {
        RootGates g = Bench.with("", "", "U");
        due.is("write of " + text, Bench.write(g, 2, text), answer);
        due.isText("the word behind " + text, Bench.word(g, 2), "U");
        due.is("changes", g.told(0), 1);
        due.is("bytes", g.told(1), 0);
    }

    private static void oneItemOrMore() {
        due.about(28, "A TEXT: ITEMS, one or more, one behind another");
        isRefused("", -100);
        isText("H", "H");
        isText("HT", "HT");
        isText("H(T)~S(X)2Z", "HTSZXXZ");
        isText("HTSXZWU".repeat(8) + "HTSX", "HTSXZWU".repeat(8) + "HTSX");
    }

    private static void letters() {
        due.about(28, "a GATE's letter");
        for (int letter = 32; letter <= 126; letter++) {
            String text = String.valueOf((char) letter);
            if (Bench.LETTERS.contains(text)) {
                isText(text, text);
            } else {
                isRefused(text, letter == '~' || letter == '(' ? -101 : -100);
            }
        }
    }

    private static void turnedItems() {
        due.about(28, "each so turned: H, X, Z stay, T is U, U is T, S is S Z, W is seven W's");
        isText("~H", "H");
        isText("~X", "X");
        isText("~Z", "Z");
        isText("~T", "U");
        isText("~U", "T");
        isText("~S", "SZ");
        isText("~W", "WWWWWWW");
        due.about(28, "~ and an ITEM");
        isRefused("~", -101);
        isRefused("H~", -102);
        isRefused("~~", -102);
        isText("~~T", "T");
        isText("~~~T", "U");
        isText("~TT", "UT");
        isText("T~T", "TU");
    }

    private static void turnedOrder() {
        due.about(28, "that row the other way about: its last GATE first");
        isText("~(HT)", "UH");
        isText("~(HTX)", "XUH");
        isText("~((HT)X)", "XUH");
        isText("~(HT)X", "UHX");
        isText("~~(HTX)", "HTX");
    }

    private static void turnedS() {
        due.about(28, "~: S is S, then Z, at its place");
        isText("~(HSX)", "XSZH");
        isText("~(SS)", "SZSZ");
        isText("~~S", "ZSZ");
        isText("~~~S", "ZSZZ");
        isText("~~(XS)", "XZSZ");
    }

    private static void turnedW() {
        due.about(28, "W is seven W's");
        isText("~(HW)", "WWWWWWWH");
        isText("~(WW)", "W".repeat(14));
        isText("~~W", "W".repeat(49));
        isText("~(W)8", "W".repeat(56));
    }

    private static void turnedGroups() {
        due.about(28, "it turns a group with its figure");
        isText("~(HT)2", "UHUH");
        isText("~(HT)0", "");
        isText("~(T)9", "UUUUUUUUU");
        isText("~(W)0", "");
        isText("~((W)9)0", "");
        isText("~(~S)2", "ZSZZSZ");
    }

    private static void turnedWithoutGroup() {
        due.about(28, "~ needs no ( open");
        isText("~TH", "UH");
        isText("(((~T)))", "U");
        isText("((((~T))))", "U");
        isText("~((((T))))", "U");
        isText("~".repeat(79) + "T", "U");
        isText("~(~(~(~(~T))))", "U");
        due.about(28, "At most 4 of ( are open at once.");
        isRefused("~(~(~(~(~(T", -109);
    }

    private static void groupsOfOneOrMore() {
        due.about(28, "( and ITEMS, one or more, and ), perhaps a figure 0 .. 9 behind (so many times)");
        isRefused("()", -101);
        isRefused("()2", -101);
        isRefused("(())", -102);
        isRefused("H()", -102);
        isRefused("(2)", -101);
        isRefused("(~)", -102);
        isText("(H)", "H");
        isText("(HT)", "HT");
        isText("((H)0)", "");
        isRefused("(H", -102);
        isRefused("H)", -101);
        isRefused("(H))", -103);
        isRefused(")H(", -100);
    }

    private static void figures() {
        due.about(28, "perhaps a figure 0 .. 9 behind (so many times)");
        for (int figure = 0; figure <= 9; figure++) {
            isText("(HT)" + figure, "HT".repeat(figure));
        }
        isText("(HT)", "HT");
        isText("(H)2(T)3", "HHTTT");
        isText("((H)2T)2", "HHTHHT");
        isRefused("(H)/", -103);
        isRefused("(H):", -103);
        isRefused("(H)10", -104);
        isRefused("(H)00", -104);
        isRefused("H2", -101);
        isRefused("2", -100);
        isRefused("~2", -101);
        isRefused("(H2)", -102);
        isRefused("~H2", -102);
    }

    private static void figureOfNothing() {
        due.about(28, "A figure 0 behind a group: nothing of it.");
        isText("(H)0", "");
        isText("(H)0T", "T");
        isText("T(H)0", "T");
        isText("(T(H)0)2", "TT");
        isText("(H)0(T)0", "");
        isText("((((H)0)9)9)9", "");
        isText("(" + "H".repeat(60) + ")0", "");
    }

    private static void fourOpen() {
        due.about(28, "At most 4 of ( are open at once.");
        isText("((((H))))", "H");
        isRefused("(((((", -104);
        isRefused("(((((H)))))", -104);
        isRefused("((((H(", -105);
        isText("((((H)))(((T)))(((S))))", "HTS");
        isText("((((H))))((((T))))", "HT");
        isRefused("((((H))))(((((", -113);
        isText("(H)(H)(H)(H)(H)(H)", "HHHHHH");
        isText("((((H)(T)(S))))", "HTS");
        isRefused("((((H)(T)(S(", -111);
    }

    private static void noBlanks() {
        due.about(28, "No blanks.");
        isRefused(" ", -100);
        isRefused(" H", -100);
        isRefused("H ", -101);
        isRefused("H T", -101);
        isRefused("~ H", -101);
        isRefused("( H)", -101);
        isRefused("(H )", -102);
        isRefused("(H) 2", -103);
    }

    private static void faultAtFirstByte() {
        due.about(28, "FAULT: the first byte with which no such text goes on, or the length, if it ends too early: "
            + "-100 less it.");
        isRefused("?", -100);
        isRefused("H?", -101);
        isRefused("H??", -101);
        isRefused("(?", -101);
        isRefused("(H)??", -103);
        isRefused("H".repeat(79) + "?", -179);
        isRefused("?" + "H".repeat(79), -100);
        isRefused("h", -100);
        isRefused("HTY", -102);
    }

    private static void faultAtLength() {
        due.about(28, "or the length, if it ends too early: -100 less it");
        isRefused("", -100);
        isRefused("(", -101);
        isRefused("~", -101);
        isRefused("(H", -102);
        isRefused("(H)~", -104);
        isRefused("((((", -104);
        isRefused("((H)", -104);
        isRefused("((H)2", -105);
        isRefused("~".repeat(80), -180);
        isRefused("(" + "H".repeat(79), -180);
        isRefused("H".repeat(79) + "(", -180);
    }

    /** Each byte behind each kind of beginning: whether a text goes on with it. */
    private static void faultOfEachByte() {
        due.about(28, "the first byte with which no such text goes on");
        String[] starts = {"", "H", "~", "(", "(H", "(~", "(H)", "(H)2", "((((", "((((H", "((((H)", "~(H)"};
        for (String start : starts) {
            for (int letter = 32; letter <= 126; letter++) {
                String text = start + (char) letter;
                boolean goesOn = Model.goesOn(text);
                boolean isText = Model.isText(text);
                RootGates g = new RootGates();
                int answer = Bench.write(g, 0, text);
                if (isText) {
                    due.isTrue(text + " is a text", answer >= 0);
                } else {
                    due.is("write of " + text, answer, -100 - (goesOn ? text.length() : start.length()));
                }
            }
        }
    }

    private static void fullOfText() {
        due.about(28, "FULL (-3): more than 60 GATES");
        isText("H".repeat(60), "H".repeat(60));
        isRefused("H".repeat(61), RootGates.FULL);
        isRefused("H".repeat(80), RootGates.FULL);
        isText("(HTSXZW)9(H)6", "HTSXZW".repeat(9) + "HHHHHH");
        isRefused("(HTSXZW)9(H)7", RootGates.FULL);
        isRefused("(HTSXZW)9(H)6T", RootGates.FULL);
        isText("(HTSXZW)9(H)6(T)0", "HTSXZW".repeat(9) + "HHHHHH");
    }

    private static void fullOfItem() {
        due.about(28, "(in a TEXT also those of an ITEM, or of all ITEMS in a group, on the way)");
        isText("(" + "H".repeat(30) + ")2", "H".repeat(60));
        isRefused("(" + "H".repeat(31) + ")2", RootGates.FULL);
        isText("((H)6(T)4)6", "HHHHHHTTTT".repeat(6));
        isRefused("((H)6(T)4)7", RootGates.FULL);
        isRefused("((" + "H".repeat(31) + ")2)0", RootGates.FULL);
        isText("((" + "H".repeat(30) + ")2)0", "");
        isRefused("(((HTSXZWU)9)0)0", RootGates.FULL);
    }

    private static void fullOfGroup() {
        due.about(28, "(in a TEXT also those of an ITEM, or of all ITEMS in a group, on the way)");
        isText("((HTSXZ)6(HTSXZ)6)0", "");
        isRefused("((HTSXZ)6(HTSXZ)6H)0", RootGates.FULL);
        isText("(" + "H".repeat(60) + ")1", "H".repeat(60));
        isRefused("(" + "H".repeat(61) + ")0", RootGates.FULL);
        isRefused("((" + "H".repeat(61) + "))0", RootGates.FULL);
        isText("((HTSXZ)6((HTSXZ)6)0(HTSXZ)6)0", "");
    }

    private static void fullOfTurned() {
        due.about(28, "FULL by what ~ makes, too, and on the way, though a figure 0 follows; a FAULT goes ahead of "
            + "FULL.");
        isText("~(" + "S".repeat(30) + ")", "SZ".repeat(30));
        isRefused("~(" + "S".repeat(31) + ")", RootGates.FULL);
        isText("~(W)8HHHH", "W".repeat(56) + "HHHH");
        isRefused("~(W)8HHHHH", RootGates.FULL);
        isRefused("~(W)9", RootGates.FULL);
        isRefused("~(" + "S".repeat(30) + "H)", RootGates.FULL);
        isRefused("~~(WW)", RootGates.FULL);
        isRefused("~~~W", RootGates.FULL);
        isText("~(" + "H".repeat(60) + ")", "H".repeat(60));
        isText("HHHH~(W)8", "HHHH" + "W".repeat(56));
        isRefused("HHHHH~(W)8", RootGates.FULL);
    }

    private static void fullThoughNothing() {
        due.about(28, "and on the way, though a figure 0 follows");
        isRefused("(~(W)9)0", RootGates.FULL);
        isText("(~(W)8)0", "");
        isRefused("(~~~W)0", RootGates.FULL);
        isRefused("H(~(" + "S".repeat(31) + "))0", RootGates.FULL);
        isText("H(~(" + "S".repeat(30) + "))0", "H");
        isText("H~(" + "S".repeat(31) + ")0", "H");
        isRefused("(~(W)8HHHHH)0", RootGates.FULL);
        isText("(~(W)8HHHH)0", "");
        isRefused("(~(" + "S".repeat(30) + "H))0", RootGates.FULL);
        isText("(~(" + "S".repeat(29) + "HX))0", "");
        isRefused("(((~(W)9)0)0)0", RootGates.FULL);
    }

    /** Just what stands in a group is of it: 60 ahead of it do not make it full. */
    private static void notFullAheadOfGroup() {
        due.about(28, "or of all ITEMS in a group, on the way");
        isText("(HTSXZ)9((HTSXZ)9)0", "HTSXZ".repeat(9));
        isText("(HTSXZ)9(HTSXZ)3(H)0", "HTSXZ".repeat(12));
        isText("((HTSXZ)6(HTSXZ)6(HT)0)1", "HTSXZ".repeat(12));
        isText("~(W)8HHHH(~(W)8HHHH)0", "W".repeat(56) + "HHHH");
        String sixty = "~~W~WHHHH";
        isText((sixty + "(").repeat(4) + sixty + ")0".repeat(4), "W".repeat(56) + "HHHH");
    }

    private static void faultAheadOfFull() {
        due.about(28, "a FAULT goes ahead of FULL");
        isRefused("H".repeat(61) + "?", -161);
        isRefused("H".repeat(61) + "(", -162);
        isRefused("(HTSXZWU)9)", -110);
        isRefused("~~~W~", -105);
        isRefused("(~~~W", -105);
        isRefused("(~~~W)0 ", -107);
    }

    private static void tapeIsEmptied() {
        due.about(28, "THE TAPE is empty behind each call that reads it, by a FAULT and by FULL, too.");
        RootGates g = new RootGates();
        due.is("write", Bench.write(g, 0, "HT"), 2);
        due.is("bytes behind it", g.told(1), 0);
        due.is("write of none", g.write(0), -100);
        due.is("write with a fault", Bench.write(g, 0, "(H"), -102);
        due.is("bytes behind it", g.told(1), 0);
        due.is("write of FULL", Bench.write(g, 0, "~~~W"), RootGates.FULL);
        due.is("bytes behind it", g.told(1), 0);
        due.is("the same again", Bench.write(g, 0, "HT"), 2);
        due.is("bytes behind it", g.told(1), 0);
        due.is("feed", g.feed('X'), 1);
        due.isText("the word", Bench.word(g, 0), "HT");
    }

    /** A text that was refused within groups and behind ~ leaves nothing for the next one. */
    private static void nothingComesToTheNext() {
        due.about(28, "THE TAPE is empty behind each call that reads it, by a FAULT and by FULL, too.");
        RootGates g = new RootGates();
        String[] refused = {"((~~~W", "((~~~W))", "~(~((HTSXZWU)9))", "(((~(HTSXZWU)9)))2", "~(", "((((H"};
        for (String text : refused) {
            due.isTrue("refused: " + text, Bench.write(g, 0, text) < 0);
            due.is("write of (T)2S behind " + text, Bench.write(g, 0, "(T)2S"), 3);
            due.isText("word 0 behind " + text, Bench.word(g, 0), "TTS");
            due.is("four open behind " + text, Bench.write(g, 0, "((((H))))"), 1);
        }
    }

    private static void tapeStays() {
        RootGates g = new RootGates();
        due.about(28, "BAD: word (THE TAPE stays); -100 less the FAULT; FULL.");
        Bench.feed(g, "HTS");
        for (int bad : Bench.NO_WORDS) {
            due.is("write(" + bad + ")", g.write(bad), RootGates.BAD);
            due.is("bytes", g.told(1), 3);
        }
        due.is("write(0)", g.write(0), 3);
        due.isText("word 0", Bench.word(g, 0), "HTS");
    }

    private static void wordIsReplaced() {
        due.about(28, "A WORD becomes what THE TAPE, a TEXT, tells: how many GATES it has.");
        RootGates g = Bench.with("H".repeat(60), "T", "S");
        due.is("write where 60 stood", Bench.write(g, 0, "XZ"), 2);
        due.isText("word 0", Bench.word(g, 0), "XZ");
        due.is("write of nothing", Bench.write(g, 0, "(H)0"), 0);
        due.isText("word 0", Bench.word(g, 0), "");
        due.is("write to word 2", Bench.write(g, 2, "HH"), 2);
        due.isText("word 1 stays", Bench.word(g, 1), "T");
        due.isText("word 2", Bench.word(g, 2), "HH");
    }

    private static void writeRefused() {
        due.about(28, "of several the first as the call's words name them");
        RootGates g = new RootGates();
        Bench.feed(g, "(");
        due.is("write(3) of a fault", g.write(3), RootGates.BAD);
        due.is("write(2) of a fault", g.write(2), -101);
        Bench.feed(g, "~~~W");
        due.is("write(-1) of FULL", g.write(-1), RootGates.BAD);
        due.is("bytes", g.told(1), 4);
        due.is("write(2) of FULL", g.write(2), RootGates.FULL);
    }
}
