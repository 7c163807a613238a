/** Promises 26 to 28: feed, wipe, write. */
public final class TextsTest {
    private static final Due due = new Due();

    public static void main(String[] args) {
        feedAndWipe();
        items();
        turned();
        groups();
        faults();
        full();
        fullOnTheWay();
        faultAheadOfFull();
        tapeBehindEachCall();
        nextAfterFull();
        allShortTexts();
        due.end();
    }

    private static void feedAndWipe() {
        RootGates g = new RootGates();
        due.is("wipe of none", g.wipe(), 0);
        for (int letter : new int[] {31, 127, 0, -1, 10, 255, Integer.MIN_VALUE, Integer.MAX_VALUE}) {
            due.is("feed(" + letter + ")", g.feed(letter), RootGates.BAD);
        }
        due.is("feed(32)", g.feed(32), 1);
        due.is("feed(126)", g.feed(126), 2);
        due.is("told(1)", g.told(1), 2);
        due.is("wipe", g.wipe(), 2);
        due.is("told(1)", g.told(1), 0);
        for (int i = 1; i <= 80; i++) {
            due.is("feed", g.feed('H'), i);
        }
        due.is("feed of one more", g.feed('H'), RootGates.FULL);
        due.is("BAD ahead of FULL", g.feed(31), RootGates.BAD);
        due.is("wipe", g.wipe(), 80);
    }

    private static void isText(String text, String want) {
        RootGates g = new RootGates();
        g.push(1, 6);
        due.is("write of " + text, Bench.write(g, 1, text), want.length());
        String got = Bench.word(g, 1);
        due.isTrue(text + " tells " + got + ", due is " + want, got.equals(want));
        due.is("the tape is empty", g.told(1), 0);
        due.is("a change", g.told(0), want.equals("U") ? 1 : 2);
    }

    private static void isRefused(String text, int answer) {
        RootGates g = new RootGates();
        g.push(2, 6);
        due.is("write of " + text, Bench.write(g, 2, text), answer);
        due.is("the word stays", g.word(2, -1), 1);
        due.is("the tape is empty", g.told(1), 0);
        due.is("no change", g.told(0), 1);
    }

    private static void items() {
        isText("H", "H");
        isText("U", "U");
        isText("HTSXZWU", "HTSXZWU");
        isText("(H)", "H");
        isText("((((H))))", "H");
        isText("(((T)))(((X)))", "TX");
        isText("H(T)S", "HTS");
    }

    private static void turned() {
        isText("~H", "H");
        isText("~X", "X");
        isText("~Z", "Z");
        isText("~T", "U");
        isText("~U", "T");
        isText("~S", "SZ");
        isText("~W", "WWWWWWW");
        isText("~~T", "T");
        isText("~~~T", "U");
        isText("~~S", "ZSZ");
        isText("~~~S", "ZSZZ");
        isText("~~W", "W".repeat(49));
        isText("~HT", "HT");
        isText("~TH", "UH");
        isText("~(TH)", "HU");
        isText("~(HTSX)", "XSZUH");
        isText("~(TH)2", "HUHU");
        isText("(~TH)2", "UHUH");
        isText("~(TX)0", "");
        isText("~~(TS)", "TZSZ");
        isText("~(~TS)", "SZT");
        isText("~(~(ST)H)", "HZSZT");
        isText("~".repeat(79) + "T", "U");
        isText("~".repeat(78) + "TH", "TH");
        isText("~~~~(((~T)))", "U");
    }

    private static void groups() {
        isText("(HT)0", "");
        isText("(HT)1", "HT");
        isText("(HT)2", "HTHT");
        isText("(H)9", "HHHHHHHHH");
        isText("((HT)2S)3", "HTHTSHTHTSHTHTS");
        isText("(HT)0(X)2", "XX");
        isText("((H)0)5", "");
        isText("(H)(T)(S)", "HTS");
        isText("(H)2(T)2", "HHTT");
        isText("((((HT)2)2)2)2", "HT".repeat(16));
        isText("(((H)2)2T)2~((XT)2)1", "HHHHTHHHHTUXUX");
    }

    private static void faults() {
        isRefused("", -100);
        isRefused("h", -100);
        isRefused(" H", -100);
        isRefused("H ", -101);
        isRefused("HH H", -102);
        isRefused(")", -100);
        isRefused("H)", -101);
        isRefused("2", -100);
        isRefused("H2", -101);
        isRefused("~2", -101);
        isRefused("~)", -101);
        isRefused("(~)", -102);
        isRefused("()", -101);
        isRefused("(2)", -101);
        isRefused("(H)22", -104);
        isRefused("(H)2)", -104);
        isRefused("(H))", -103);
        isRefused("(H", -102);
        isRefused("(H)~", -104);
        isRefused("(H)(", -104);
        isRefused("~", -101);
        isRefused("~".repeat(80), -180);
        isRefused("(", -101);
        isRefused("((((", -104);
        isRefused("(((((", -104);
        isRefused("((((H)(H", -108);
        isRefused("((((H))))(((((", -113);
        isRefused("H(T(S(X(Z(", -109);
        isRefused("A", -100);
        isRefused("HTQ", -102);
        isRefused("(H)a", -103);
        isRefused("(H):", -103);
        isRefused("(H)/", -103);
        isRefused("H".repeat(79) + "(", -180);
    }

    private static void full() {
        isText("H".repeat(60), "H".repeat(60));
        isRefused("H".repeat(61), RootGates.FULL);
        isRefused("H".repeat(80), RootGates.FULL);
        isText("(HTSXZW)9(H)6", "HTSXZW".repeat(9) + "HHHHHH");
        isRefused("(HTSXZW)9(H)7", RootGates.FULL);
        isRefused("(HTSXZWU)9", RootGates.FULL);
        isText("(~W)8HHHH", "W".repeat(56) + "HHHH");
        isRefused("(~W)9", RootGates.FULL);
        isRefused("~((W)9)", RootGates.FULL);
        isRefused("~~~W", RootGates.FULL);
        isRefused("~~W~WHHHHH", RootGates.FULL);
        isText("~~W~WHHHH", "W".repeat(56) + "HHHH");
        isText("~(S)9~(S)9~(S)9~(S)3", "SZ".repeat(30));
        isRefused("~(S)9~(S)9~(S)9~(S)3H", RootGates.FULL);
        isText("~(" + "H".repeat(60) + ")", "H".repeat(60));
        isText("~(" + "T".repeat(60) + ")", "U".repeat(60));
        isText("~(" + "S".repeat(30) + ")", "SZ".repeat(30));
        isRefused("~(" + "S".repeat(31) + ")", RootGates.FULL);
    }

    /** An item, or all items in a group, may be too much though a figure 0 follows. */
    private static void fullOnTheWay() {
        isRefused("((HTSXZWU)9)0", RootGates.FULL);
        isRefused("(~~~W)0", RootGates.FULL);
        isRefused("(" + "H".repeat(61) + ")0", RootGates.FULL);
        isText("(" + "H".repeat(60) + ")0", "");
        isRefused("(~(W)9)0", RootGates.FULL);
        isRefused("((HTSXZ)6(HTSXZ)6H)0", RootGates.FULL);
        isText("((HTSXZ)6(HTSXZ)6)0T", "T");
        // what stands ahead of a group is not in it
        isText("(HTSXZ)9((HTSXZ)9)0", "HTSXZ".repeat(9));
        isText("(HTSXZ)9((HTSXZ)9(((HTSXZ)9)0)0)0", "HTSXZ".repeat(9));
        isText("(H)9((W)9(W)9(W)9(W)9(W)9(W)9)0(T)9", "H".repeat(9) + "T".repeat(9));
        isRefused("(~((W)9))0", RootGates.FULL);
        isRefused("(~(S)9~(S)9~(S)9~(S)4)0", RootGates.FULL);
        isText("(~(S)9~(S)9~(S)9~(S)3)0", "");
        String sixty = "~~W~WHHHH";
        isText((sixty + "(").repeat(4) + sixty + ")0".repeat(4), "W".repeat(56) + "HHHH");
        isText("~((W)9)0", "");
        isText("~((W)9)0~((W)9)0H", "H");
    }

    private static void faultAheadOfFull() {
        isRefused("H".repeat(61) + ")", -161);
        isRefused("~~~W(", -105);
        isRefused("(~~~W)0)", -107);
    }

    private static void tapeBehindEachCall() {
        RootGates g = new RootGates();
        Bench.feed(g, "HT");
        for (int bad : Bench.NO_WORDS) {
            due.is("write", g.write(bad), RootGates.BAD);
        }
        due.is("the tape stays by BAD", g.told(1), 2);
        due.is("write", g.write(0), 2);
        due.is("the same again is no change", Bench.write(g, 0, "(HT)"), 2);
        due.is("changes", g.told(0), 1);
        Bench.feed(g, "H".repeat(80));
        due.is("FULL", g.write(0), RootGates.FULL);
        due.is("feed from none", g.feed('X'), 1);
        due.is("write", g.write(0), 1);
        due.is("write of none", g.write(0), -100);
    }

    /** Nothing of a text that was too much comes to the next one. */
    private static void nextAfterFull() {
        RootGates g = new RootGates();
        for (String text : new String[] {"((~~~W))", "~(HTSXZWU)9", "(((~(HTSXZWU)9)))2", "HHH~((W)9)"}) {
            due.is("FULL", Bench.write(g, 0, text), RootGates.FULL);
            due.is("write of (T)2S", Bench.write(g, 0, "(T)2S"), 3);
            due.isTrue("T T S behind " + text, Bench.word(g, 0).equals("TTS"));
            due.is("a long one", Bench.write(g, 1, "H".repeat(60)), 60);
        }
    }

    /** Every text of up to five signs, compared with the model. */
    private static void allShortTexts() {
        String signs = "HSW~()02";
        RootGates g = null;
        int calls = 0;
        for (int length = 0; length <= 5; length++) {
            for (int number = 0; number < Math.pow(signs.length(), length); number++) {
                StringBuilder text = new StringBuilder();
                for (int i = 0, rest = number; i < length; i++, rest /= signs.length()) {
                    text.append(signs.charAt(rest % signs.length()));
                }
                if (g == null || calls > 490) {
                    g = new RootGates();
                    calls = 0;
                }
                calls += 8;
                int fault = Model.faultOf(text.toString());
                String row = fault >= 0 ? "" : Model.readText(text.toString());
                int want = fault >= 0 ? -100 - fault : row == null ? RootGates.FULL : row.length();
                due.is("write of " + text, Bench.write(g, 0, text.toString()), want);
            }
        }
    }
}
