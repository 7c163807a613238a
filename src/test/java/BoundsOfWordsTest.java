/** Each sentence that names a boundary, promises 17 to 24: push, pull, word, value, shorter, normal, fits, parts. */
public final class BoundsOfWordsTest {
    private static final int H = 0, T = 1, S = 2, X = 3, Z = 4, W = 5, U = 6;
    private static final Due due = new Due();

    public static void main(String[] args) {
        pushUpTo60();
        pushRefused();
        pullDownToNone();
        pullRefused();
        wordPlaces();
        wordRefused();
        costs();
        valueOfNone();
        valueOfFirstAhead();
        valueOfLongest();
        valueRefused();
        shorterOfNone();
        shorterByEachRule();
        shorterByEightW();
        shorterFromTheLeft();
        shorterAgainFromTheLeft();
        shorterAtBothEnds();
        shorterOfLongest();
        shorterByNoPrices();
        shorterRefused();
        normalOfNone();
        normalOfCliffords();
        normalOfEachRow();
        normalBehindThoseThere();
        normalJustThatRow();
        normalUpTo60();
        normalOfHighest();
        normalByPricesOfNow();
        normalRefused();
        fitsAtFirstAndLast();
        fitsNowhere();
        fitsOfEachGate();
        fitsRefused();
        partsNowhere();
        partsAtFirstAndLast();
        partsBehindAnEnd();
        partsByNoPhase();
        partsRefused();
        due.end();
    }

    private static void pushUpTo60() {
        RootGates g = new RootGates();
        due.about(17, "rows of GATES (60 at most; none at first)");
        for (int i = 0; i < 60; i++) {
            due.is("push " + i, g.push(2, i % 7), i + 1);
        }
        due.about(17, "FULL (-3): more than 60 GATES");
        due.is("push of the 61st", g.push(2, H), RootGates.FULL);
        due.is("push once more", g.push(2, U), RootGates.FULL);
        due.is("how many", g.word(2, -1), 60);
        due.is("the 60th", g.word(2, 59), 59 % 7);
        due.is("no change", g.told(0), 8);
        due.is("pull makes room", g.pull(2), 59 % 7);
        due.is("push of the 60th", g.push(2, X), 60);
        due.about(17, "WORDS 0 .. 2");
        due.is("push to word 0", g.push(0, H), 1);
        due.is("push to word 1", g.push(1, H), 1);
    }

    private static void pushRefused() {
        RootGates g = Bench.with("H".repeat(60));
        due.about(17, "A GATE comes behind a WORD's: how many it has. BAD; FULL.");
        for (int bad : Bench.NO_WORDS) {
            due.is("push(" + bad + ", H)", g.push(bad, H), RootGates.BAD);
        }
        for (int bad : Bench.NO_GATES) {
            due.is("push(1, " + bad + ")", g.push(1, bad), RootGates.BAD);
        }
        due.is("word 1", g.word(1, -1), 0);
        due.about(17, "of several the first as the call's words name them");
        due.is("push(0, 7) to 60 gates", g.push(0, 7), RootGates.BAD);
    }

    private static void pullDownToNone() {
        RootGates g = Bench.with("", "", "HTSXZWU".repeat(8) + "HTSX");
        due.about(18, "The last GATE of a WORD goes: which. BAD; NOT: it has none.");
        for (int i = 59; i >= 0; i--) {
            due.is("pull " + i, g.pull(2), i % 7);
            due.is("how many", g.word(2, -1), i);
        }
        due.is("pull of none", g.pull(2), RootGates.NOT);
        due.is("pull of none again", g.pull(2), RootGates.NOT);
        due.is("how many", g.word(2, -1), 0);
        due.is("push", g.push(2, W), 1);
        due.is("pull", g.pull(2), W);
    }

    private static void pullRefused() {
        RootGates g = Bench.with("H", "T", "S");
        due.about(18, "The last GATE of a WORD goes: which. BAD; NOT: it has none.");
        for (int bad : Bench.NO_WORDS) {
            due.is("pull(" + bad + ")", g.pull(bad), RootGates.BAD);
        }
        due.is("all gates", g.image(), 3);
        due.is("pull(0)", g.pull(0), H);
        due.is("pull(1)", g.pull(1), T);
        due.is("pull(2)", g.pull(2), S);
    }

    private static void wordPlaces() {
        RootGates g = Bench.with("", "HTSXZWU", "X".repeat(59) + "U");
        due.about(19, "The i-th GATE (0 on) of a WORD; i -1: how many it has; -2: its COST.");
        due.is("the first", g.word(1, 0), H);
        due.is("the last", g.word(1, 6), U);
        due.is("how many", g.word(1, -1), 7);
        due.is("the 60th", g.word(2, 59), U);
        due.is("how many", g.word(2, -1), 60);
        due.is("how many of none", g.word(0, -1), 0);
        due.about(19, "BAD: word, i below -2; NOT: it has not so many.");
        due.is("behind the last", g.word(1, 7), RootGates.NOT);
        due.is("behind the 60th", g.word(2, 60), RootGates.NOT);
        due.is("far behind", g.word(2, Integer.MAX_VALUE), RootGates.NOT);
        due.is("of none", g.word(0, 0), RootGates.NOT);
    }

    /** A gate that was pulled is no gate of the word any more, though its place was once used. */
    private static void wordRefused() {
        RootGates g = Bench.with("HT");
        due.about(19, "BAD: word, i below -2; NOT: it has not so many.");
        due.is("word(0, -3)", g.word(0, -3), RootGates.BAD);
        due.is("word(0, least)", g.word(0, Integer.MIN_VALUE), RootGates.BAD);
        for (int bad : Bench.NO_WORDS) {
            for (int i : new int[] {-3, -2, -1, 0, 100}) {
                due.is("word(" + bad + ", " + i + ")", g.word(bad, i), RootGates.BAD);
            }
        }
        g.pull(0);
        due.is("of one pulled", g.word(0, 1), RootGates.NOT);
    }

    private static void costs() {
        RootGates g = Bench.with("", "HTSXZWU", "U".repeat(60));
        due.about(19, "COST: all PRICES of its GATES together.");
        due.is("of none", g.word(0, -2), 0);
        due.is("of seven at first", g.word(1, -2), 7);
        due.is("of sixty at first", g.word(2, -2), 60);
        g.price(U, 9);
        due.is("of sixty, 9 each", g.word(2, -2), 540);
        due.is("of seven, one of them 9", g.word(1, -2), 15);
        g.price(U, 0);
        due.is("of sixty, 0 each", g.word(2, -2), 0);
        for (int gate = 0; gate < 7; gate++) {
            g.price(gate, gate + 2);
        }
        due.is("of seven, 2 to 8", g.word(1, -2), 35);
    }

    private static void valueOfNone() {
        RootGates g = new RootGates();
        Bench.makeHighest(g, 3, 0);
        due.about(20, "(1, 0 and 0, 1 of none)");
        due.is("value(3, 2)", g.value(3, 2), 0);
        due.isText("register 3", Bench.table(g, 3), "0: | 1 0 0 0 | 0 0 0 0 | 0 0 0 0 | 1 0 0 0");
        due.is("parts of none and none", g.parts(0, 1), RootGates.NOT);
    }

    private static void valueOfFirstAhead() {
        RootGates g = Bench.with("XT", "T", "H");
        due.about(20, "VALUE of a WORD: the product of its GATES, the first one ahead");
        due.is("value(0, 0)", g.value(0, 0), 0);
        due.isText("X T", Bench.table(g, 0), "0: | 0 0 0 0 | 0 1 0 0 | 1 0 0 0 | 0 0 0 0");
        due.is("value(0, 1)", g.value(0, 1), 0);
        due.isText("T alone", Bench.table(g, 0), "0: | 1 0 0 0 | 0 0 0 0 | 0 0 0 0 | 0 1 0 0");
        due.is("value(3, 2)", g.value(3, 2), 1);
        due.isText("H alone", Bench.table(g, 3), "1: | 1 0 0 0 | 1 0 0 0 | 1 0 0 0 | -1 0 0 0");
    }

    /** Sixty gates come to E 16 at most, far from STATE. */
    private static void valueOfLongest() {
        RootGates g = Bench.with("HT".repeat(30), "H".repeat(60), "TH".repeat(30));
        due.about(20, "STATE (-5): E would be above 40; or as told.");
        due.is("of H T, thirty times", g.value(0, 0), 16);
        due.is("of sixty H", g.value(1, 1), 0);
        due.is("of T H, thirty times", g.value(2, 2), 16);
        Bench.make(g, 3, "HT".repeat(30));
        due.is("the same", g.phase(0, 3), 0);
        Bench.make(g, 3, "TH".repeat(30));
        due.is("the same", g.phase(2, 3), 0);
    }

    private static void valueRefused() {
        RootGates g = Bench.with("H", "H", "H");
        due.about(20, "A REGISTER becomes VALUE of a WORD: its E. BAD; STATE.");
        for (int bad : Bench.NO_REGISTERS) {
            due.is("value(" + bad + ", 0)", g.value(bad, 0), RootGates.BAD);
        }
        for (int bad : Bench.NO_WORDS) {
            due.is("value(0, " + bad + ")", g.value(0, bad), RootGates.BAD);
        }
        due.is("e(0)", g.e(0), 0);
    }

    private static void isShorter(String word, String want) {
        RootGates g = Bench.with("", word);
        int changes = g.told(0);
        due.is("shorter of " + word, g.shorter(1), want.length());
        due.isText("shorter of " + word, Bench.word(g, 1), want);
        due.is("changes", g.told(0), word.equals(want) ? changes : Math.min(8, changes + 1));
    }

    private static void shorterOfNone() {
        due.about(21, "SHORTER is made a WORD: how many GATES it has.");
        isShorter("", "");
        for (char gate : Bench.LETTERS.toCharArray()) {
            isShorter(String.valueOf(gate), String.valueOf(gate));
        }
    }

    /** Of all pairs of gates just these are shorter, and all else stays. */
    private static void shorterByEachRule() {
        String[] rules = {"HH", "", "XX", "", "ZZ", "", "TU", "", "UT", "", "TT", "S", "UU", "SZ", "SS", "Z", "SU", "T",
            "US", "T"};
        due.about(21, "H H, X X, Z Z, T U, U T, and eight W's one behind another: they go; T T: S stands for them; U "
            + "U: S Z; S S: Z; S U, U S: T.");
        for (char first : Bench.LETTERS.toCharArray()) {
            for (char second : Bench.LETTERS.toCharArray()) {
                String pair = "" + first + second;
                String want = pair;
                for (int i = 0; i < rules.length; i += 2) {
                    want = rules[i].equals(pair) ? rules[i + 1] : want;
                }
                isShorter(pair, want);
            }
        }
    }

    private static void shorterByEightW() {
        due.about(21, "and eight W's one behind another: they go");
        isShorter("W".repeat(7), "W".repeat(7));
        isShorter("W".repeat(8), "");
        isShorter("W".repeat(15), "W".repeat(7));
        isShorter("W".repeat(16), "");
        isShorter("W".repeat(7) + "H" + "W".repeat(7), "W".repeat(7) + "H" + "W".repeat(7));
        isShorter("WWWWXWWWW", "WWWWXWWWW");
        isShorter("H" + "W".repeat(8) + "T", "HT");
        due.about(21, "Nine W's: one stays.");
        isShorter("W".repeat(9), "W");
        due.about(21, "Then again from the left, till none stands anywhere.");
        isShorter("W".repeat(60), "WWWW");
        isShorter("WWWWXXWWWW", "");
        isShorter("WWWWXXWWWWW", "W");
    }

    private static void shorterFromTheLeft() {
        due.about(21, "at the first place from the left at which one of these stands");
        isShorter("TTT", "ST");
        isShorter("UUU", "SZU");
        isShorter("SSS", "ZS");
        isShorter("HHH", "H");
        isShorter("SUS", "TS");
        isShorter("UUT", "SZT");
        isShorter("TUU", "U");
        isShorter("UTT", "T");
        isShorter("SSU", "ZU");
        due.about(21, "RULES: of several that stand at one place (they begin there) the first as told.");
        isShorter("TTU", "T");
        isShorter("SUU", "");
        isShorter("TUT", "T");
    }

    private static void shorterAgainFromTheLeft() {
        due.about(21, "Then again from the left, till none stands anywhere.");
        isShorter("HTUH", "");
        isShorter("HXZTUZXH", "");
        // what stands by a rule may stand in another rule with the one ahead of it
        isShorter("STT", "Z");
        isShorter("ZSS", "");
        isShorter("TTTT", "Z");
        isShorter("TTTTTTTT", "");
        isShorter("USU", "");
        isShorter("TSU", "S");
        isShorter("ZUUZ", "ZS");
        isShorter("ZSTTZ", "Z");
        isShorter("UXXU", "SZ");
    }

    private static void shorterAtBothEnds() {
        due.about(21, "at the first place from the left at which one of these stands");
        isShorter("HHXSXH", "XSXH");
        isShorter("HXSXHH", "HXSX");
        isShorter("H".repeat(58).replace("HH", "HX") + "ZZ", "HX".repeat(29));
        isShorter("HX".repeat(29) + "UU", "HX".repeat(29) + "SZ");
        isShorter("HX".repeat(26) + "W".repeat(8), "HX".repeat(26));
        isShorter("HX".repeat(26) + "W".repeat(7), "HX".repeat(26) + "W".repeat(7));
    }

    private static void shorterOfLongest() {
        due.about(21, "FULL (it can't be).");
        isShorter("U".repeat(60), "SZ".repeat(30));
        isShorter("HX".repeat(30), "HX".repeat(30));
        isShorter("H".repeat(60), "");
        isShorter("T".repeat(60), "Z");
        isShorter("S".repeat(60), "");
        isShorter("HXZ".repeat(10) + "ZXH".repeat(10), "");
    }

    private static void shorterByNoPrices() {
        due.about(21, "SHORTER leaves PRICES out of account.");
        RootGates g = Bench.with("UU", "SS", "TT");
        g.price(S, 9);
        g.price(Z, 9);
        g.price(U, 0);
        g.price(T, 0);
        due.is("shorter of U U", g.shorter(0), 2);
        due.isText("shorter of U U", Bench.word(g, 0), "SZ");
        due.is("shorter of T T", g.shorter(2), 1);
        g.price(S, 0);
        due.is("shorter of S S", g.shorter(1), 1);
    }

    private static void shorterRefused() {
        RootGates g = Bench.with("HH", "HH", "HH");
        due.about(21, "SHORTER is made a WORD: how many GATES it has. BAD;");
        for (int bad : Bench.NO_WORDS) {
            due.is("shorter(" + bad + ")", g.shorter(bad), RootGates.BAD);
        }
        due.is("all gates", g.image(), 6);
        due.is("shorter(2)", g.shorter(2), 0);
        due.is("others stay", g.word(0, -1) + g.word(1, -1), 4);
    }

    private static void isNormal(String gates, String want) {
        RootGates g = new RootGates();
        Bench.make(g, 2, gates);
        due.is("normal of " + gates, g.normal(1, 2), want.length());
        due.isText("normal of " + gates, Bench.word(g, 1), want);
    }

    private static void normalOfNone() {
        RootGates g = Bench.with("HTS");
        due.about(22, "as long as its T-COUNT is above 0");
        due.is("normal of 1", g.normal(0, 0), 0);
        due.isText("word 0", Bench.word(g, 0), "");
        due.is("a change", g.told(0), 4);
        due.is("normal of 1 again", g.normal(0, 0), 0);
        due.is("no change", g.told(0), 4);
    }

    private static void normalOfCliffords() {
        due.about(22, "in the end the CHEAPEST word of what is left (a CLIFFORD)");
        for (int k = 0; k < 192; k++) {
            RootGates g = new RootGates();
            g.take(3, k);
            due.is("normal of clifford " + k, g.normal(2, 3), g.cheapest(k, -1));
            due.isText("normal of clifford " + k, Bench.word(g, 2), Bench.cheapest(g, k));
        }
    }

    private static void normalOfEachRow() {
        due.about(22, "of the rows T; H, T; S, H, T that one (there is just one) by which the T-COUNT of "
            + "(VALUE of the row TURNED times the TABLE) is 1 less");
        isNormal("T", "T");
        isNormal("HT", "HT");
        isNormal("SHT", "SHT");
        isNormal("U", "TSZ");
        isNormal("TT", "S");
        due.about(22, "its GATES come to the WORD, and that is the TABLE from then on");
        isNormal("THT", "THT");
        isNormal("THTSHT", "THTSHT");
        isNormal("SHTHTSHT", "SHTHTSHT");
        // X T is w times U X, U is T S Z
        isNormal("XT", "TSZXW");
    }

    private static void normalBehindThoseThere() {
        due.about(22, "NORMAL: GATES come behind those there.");
        isNormal("THTSHTHTX", "THTSHTHTX");
        isNormal("HTSHTH", "HTSHTH");
        isNormal("SHTHTS", "SHTHTS");
    }

    private static void normalJustThatRow() {
        RootGates g = Bench.with("XXZ", "H".repeat(60));
        Bench.make(g, 0, "HT");
        due.about(22, "The WORD of normal() becomes just that row.");
        due.is("normal(0, 0)", g.normal(0, 0), 2);
        due.isText("word 0", Bench.word(g, 0), "HT");
        due.is("normal(1, 0), where 60 stood", g.normal(1, 0), 2);
        due.isText("word 1", Bench.word(g, 1), "HT");
        due.isText("register 0 stays", Bench.table(g, 0), "1: | 1 0 0 0 | 0 1 0 0 | 1 0 0 0 | 0 -1 0 0");
    }

    private static void normalUpTo60() {
        RootGates g = Bench.with("X");
        Bench.make(g, 0, "HT".repeat(29));
        g.gate(0, X);
        due.about(22, "A WORD becomes the NORMAL form of a REGISTER: how many GATES it has. BAD; FULL.");
        due.is("59 gates", g.normal(0, 0), 59);
        Bench.make(g, 0, "HT".repeat(29) + "XZ");
        due.is("60 gates, two of them left", g.normal(0, 0), 60);
        Bench.make(g, 0, "SHT" + "HT".repeat(28) + "X");
        due.is("60 gates, one S H T", g.normal(0, 0), 60);
        due.is("changes", g.told(0), 4);
        due.about(22, "FULL (-3): more than 60 GATES");
        Bench.make(g, 0, "HT".repeat(29) + "XZW");
        due.is("61 gates, by what is left", g.normal(0, 0), RootGates.FULL);
        Bench.make(g, 0, "T" + "HT".repeat(30));
        due.is("61 gates, nothing left", g.normal(0, 0), RootGates.FULL);
        due.is("no change", g.told(0), 4);
        due.is("the word stays", g.word(0, -1), 60);
        due.is("the word stays", g.word(0, 0), S);
    }

    private static void normalOfHighest() {
        RootGates g = Bench.with("X");
        Bench.makeHighest(g, 0, 1);
        due.about(22, "The E of what is made on the way is not held to 40 but by gate(), ahead(), times(), value().");
        due.is("of E 40", g.normal(0, 0), RootGates.FULL);
        due.isText("the word stays", Bench.word(g, 0), "X");
        due.is("the register stays", g.e(0), 40);
        due.is("no change", g.told(0), 1);
    }

    private static void normalByPricesOfNow() {
        RootGates g = new RootGates();
        Bench.make(g, 0, "HTZ");
        due.about(22, "in the end the CHEAPEST word of what is left (a CLIFFORD)");
        due.is("by Z", g.normal(0, 0), 3);
        g.price(Z, 3);
        due.is("by S S", g.normal(0, 0), 4);
        due.isText("by S S", Bench.word(g, 0), "HTSS");
        // the rows ahead are by fewest T, whatever T's price is
        g.price(T, 9);
        due.is("by S S still", g.normal(0, 0), 4);
        Bench.make(g, 1, "HT".repeat(29) + "Z");
        due.is("60 gates by S S", g.normal(1, 1), 60);
        g.price(S, 9);
        g.price(Z, 0);
        due.is("59 gates by Z", g.normal(1, 1), 59);
    }

    private static void normalRefused() {
        RootGates g = Bench.with("H");
        Bench.makeHighest(g, 0, 1);
        due.about(22, "of several the first as the call's words name them");
        for (int bad : Bench.NO_WORDS) {
            due.is("normal(" + bad + ", 0)", g.normal(bad, 0), RootGates.BAD);
        }
        for (int bad : Bench.NO_REGISTERS) {
            due.is("normal(0, " + bad + ")", g.normal(0, bad), RootGates.BAD);
        }
        due.isText("word 0", Bench.word(g, 0), "H");
    }

    private static void fitsAtFirstAndLast() {
        RootGates g = Bench.with("HTSX", "HT".repeat(30), "U");
        g.value(0, 0);
        g.value(1, 1);
        g.value(2, 2);
        due.about(23, "FITS: the GATE that is there, too.");
        due.is("at the first", g.fits(0, 0, 0), 1 << H);
        due.is("at the last", g.fits(0, 3, 0), 1 << X);
        due.is("at the first of 60", g.fits(1, 0, 1), 1 << H);
        due.is("at the last of 60", g.fits(1, 59, 1), 1 << T);
        due.is("at the only one", g.fits(2, 0, 2), 1 << U);
    }

    private static void fitsNowhere() {
        RootGates g = Bench.with("HTS", "W");
        Bench.make(g, 0, "HTS");
        due.about(23, "FITS, PARTS let no phase in.");
        due.is("without a phase", g.fits(0, 0, 0), 1 << H);
        g.gate(0, W);
        due.is("but for a phase", g.fits(0, 0, 0), 0);
        due.is("but for a phase", g.fits(0, 1, 0), 0);
        due.is("W for 1", g.fits(1, 0, 3), 0);
        due.about(23, "FITS (bits). BAD: word, i (no such place), r.");
        Bench.makeHighest(g, 2, 3);
        due.is("of E 40", g.fits(0, 2, 2), 0);
    }

    private static void fitsOfEachGate() {
        RootGates g = Bench.with("HTXHT");
        due.about(23, "GATES (bits) which, were each at place i of a WORD, would make its VALUE the TABLE of a "
            + "REGISTER");
        for (int place = 0; place < 5; place++) {
            for (int gate = 0; gate < 7; gate++) {
                StringBuilder gates = new StringBuilder("HTXHT");
                gates.setCharAt(place, Bench.LETTERS.charAt(gate));
                Bench.make(g, 3, gates.toString());
                due.is(gates + " at " + place, g.fits(0, place, 3), 1 << gate);
            }
        }
        due.isText("the word stays", Bench.word(g, 0), "HTXHT");
    }

    private static void fitsRefused() {
        RootGates g = Bench.with("", "HT", "H".repeat(60));
        due.about(23, "FITS (bits). BAD: word, i (no such place), r.");
        due.is("of none", g.fits(0, 0, 0), RootGates.BAD);
        due.is("behind the end", g.fits(1, 2, 0), RootGates.BAD);
        due.is("behind the 60th", g.fits(2, 60, 0), RootGates.BAD);
        for (int i : new int[] {-1, -2, 61, Integer.MIN_VALUE, Integer.MAX_VALUE}) {
            due.is("fits(1, " + i + ", 0)", g.fits(1, i, 0), RootGates.BAD);
            due.is("fits(2, " + i + ", 0)", g.fits(2, i, 0), RootGates.BAD);
        }
        for (int bad : Bench.NO_WORDS) {
            due.is("fits(" + bad + ", 0, 0)", g.fits(bad, 0, 0), RootGates.BAD);
        }
        for (int bad : Bench.NO_REGISTERS) {
            due.is("fits(1, 0, " + bad + ")", g.fits(1, 0, bad), RootGates.BAD);
        }
        g.pull(1);
        due.is("at one pulled", g.fits(1, 1, 0), RootGates.BAD);
    }

    private static void isParts(String one, String other, int place) {
        RootGates g = Bench.with(one, "", other);
        due.is("parts of " + one + " and " + other, g.parts(0, 2), place);
        due.is("parts of " + other + " and " + one, g.parts(2, 0), place);
    }

    private static void partsNowhere() {
        due.about(24, "-2: nowhere, up to the end of both");
        isParts("", "", RootGates.NOT);
        isParts("H", "H", RootGates.NOT);
        isParts("HT".repeat(30), "HT".repeat(30), RootGates.NOT);
        RootGates g = Bench.with("HT", "X", "Z");
        for (int word = 0; word < 3; word++) {
            due.is("of one and itself", g.parts(word, word), RootGates.NOT);
        }
    }

    private static void partsAtFirstAndLast() {
        due.about(24, "the first place (from 0) behind which the products of the GATES so far are otherwise");
        isParts("H", "X", 0);
        isParts("HTS", "HTX", 2);
        isParts("TTT", "SXX", 0);
        isParts("HT".repeat(30), "HT".repeat(29) + "HU", 59);
        isParts("XH".repeat(30), "T" + "XH".repeat(29) + "H", 0);
        // the same in the end, otherwise on the way
        isParts("TT", "S", 0);
        isParts("HXTZ", "HXZT", 2);
        isParts("SZ", "ZS", 0);
    }

    private static void partsBehindAnEnd() {
        due.about(24, "(the ones of a WORD that has ended staying its VALUE)");
        isParts("", "H", 0);
        isParts("HT", "HTS", 2);
        isParts("HTS", "HTSXX", 3);
        isParts("", "X".repeat(60), 0);
        isParts("HT".repeat(29) + "H", "HT".repeat(30), 59);
        isParts("H", "HHH", 1);
    }

    private static void partsByNoPhase() {
        due.about(24, "FITS, PARTS let no phase in.");
        isParts("HW", "HZ", 1);
        isParts("H", "HW", 1);
        isParts("", "W", 0);
        isParts("W".repeat(8), "", 0);
    }

    private static void partsRefused() {
        RootGates g = new RootGates();
        due.about(24, "PARTS of two WORDS. BAD.");
        for (int bad : Bench.NO_WORDS) {
            due.is("parts(" + bad + ", 0)", g.parts(bad, 0), RootGates.BAD);
            due.is("parts(0, " + bad + ")", g.parts(0, bad), RootGates.BAD);
            due.is("parts(" + bad + ", " + bad + ")", g.parts(bad, bad), RootGates.BAD);
        }
        due.is("parts(0, 2)", g.parts(0, 2), RootGates.NOT);
    }
}
