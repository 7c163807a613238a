import java.util.ArrayList;
import java.util.List;

/** Each sentence that names a boundary, promises 10 to 16: channel, count, clifford, take, leads, price, cheapest. */
public final class BoundsOfCliffordsTest {
    private static final int H = 0, T = 1, S = 2, X = 3, Z = 4, W = 5, U = 6;
    private static final int[] PLAIN = {H, S, X, Z, W};
    private static final Due due = new Due();

    public static void main(String[] args) {
        channelRanges();
        channelOneF();
        channelLeastF();
        channelHighest();
        channelOfPaulis();
        counts();
        countHighest();
        countOfCliffords();
        cliffordOrNot();
        numbersAsTheyCome();
        takeFirstAndLast();
        leadsFirstAndLast();
        leadsByPlainGatesAlone();
        prices();
        cheapestOfNone();
        cheapestPlaces();
        cheapestRefused();
        cheapestByCost();
        cheapestByFewest();
        cheapestByNumbers();
        cheapestOfFree();
        cheapestOfDear();
        cheapestOfAll();
        cheapestByPricesOfNow();
        due.end();
    }

    private static void channelRanges() {
        RootGates g = new RootGates();
        due.about(10, "CHANNEL of a REGISTER at i, j: x (what 0), y (1). VOID: BAD.");
        for (int r = 0; r < 4; r++) {
            for (int at = 0; at < 18; at++) {
                int i = at / 6;
                int j = at / 2 % 3;
                due.is("channel of 1 at " + i + ", " + j, g.channel(r, i, j, at % 2), i == j && at % 2 == 0 ? 1 : 0);
            }
        }
        for (int bad : Bench.NO_REGISTERS) {
            due.is("channel(" + bad + ", 0, 0, 0)", g.channel(bad, 0, 0, 0), RootGates.VOID);
        }
        for (int bad : new int[] {-1, 3, 4, Integer.MIN_VALUE, Integer.MAX_VALUE}) {
            due.is("channel(0, " + bad + ", 0, 0)", g.channel(0, bad, 0, 0), RootGates.VOID);
            due.is("channel(0, 0, " + bad + ", 0)", g.channel(0, 0, bad, 0), RootGates.VOID);
        }
        for (int bad : new int[] {-1, 2, 3, Integer.MIN_VALUE, Integer.MAX_VALUE}) {
            due.is("channel(0, 0, 0, " + bad + ")", g.channel(0, 0, 0, bad), RootGates.VOID);
        }
    }

    private static void channelOneF() {
        RootGates g = new RootGates();
        g.gate(0, T);
        due.about(10, "CHANNEL's F is 0 or more, one for all nine.");
        // the last of T is 1: R over R
        due.is("x of T at 2, 2", g.channel(0, 2, 2, 0), 0);
        due.is("y of T at 2, 2", g.channel(0, 2, 2, 1), 1);
        due.is("x of T at 0, 0", g.channel(0, 0, 0, 0), 1);
        due.is("y of T at 0, 0", g.channel(0, 0, 0, 1), 0);
        due.about(10, "Each is real: x and y times R over R to the F, F the least by which all nine x, y are whole.");
        Bench.make(g, 0, "THT");
        // over R R: 1, 1, R; -1, -1, R; R, -R, 0
        long[] xy = {1, 0, 1, 0, 0, 1, -1, 0, -1, 0, 0, 1, 0, 1, 0, -1, 0, 0};
        for (int at = 0; at < 18; at++) {
            due.is("T H T, " + at, g.channel(0, at / 6, at / 2 % 3, at % 2), xy[at]);
        }
    }

    private static void channelLeastF() {
        RootGates g = new RootGates();
        due.about(10, "F the least by which all nine x, y are whole");
        Bench.make(g, 0, "HTTH");
        due.is("H S H at 0, 0, with E 1", g.channel(0, 0, 0, 0), 1);
        due.is("its y", g.channel(0, 0, 0, 1), 0);
        Bench.make(g, 0, "HTSTH");
        due.is("H Z H at 2, 2", g.channel(0, 2, 2, 0), -1);
        Bench.make(g, 0, "THTHTHTUHUHUHU");
        for (int at = 0; at < 9; at++) {
            due.is("of 1 that went high", g.channel(0, at / 3, at % 3, 0), at / 3 == at % 3 ? 1 : 0);
        }
    }

    /** Numbers of E 80 are made on the way; all is as the model has it in numbers without a bound. */
    private static void channelHighest() {
        RootGates g = new RootGates();
        Model model = new Model();
        due.about(10, "The E of what is made on the way is not held to 40 but by gate(), ahead(), times(), value().");
        for (int i = 0; i < 159; i++) {
            due.is("gate", g.gate(3, i % 2 == 0 ? T : H), model.call("gate", 3, i % 2 == 0 ? T : H));
        }
        due.is("e(3)", g.e(3), 40);
        for (int at = 0; at < 18; at++) {
            due.is("channel of E 40, " + at, g.channel(3, at / 6, at / 2 % 3, at % 2),
                model.call("channel", 3, at / 6, at / 2 % 3, at % 2));
        }
    }

    private static void channelOfPaulis() {
        RootGates g = new RootGates();
        due.about(10, "P 0 is X, P 1 is 0, -ww and ww, 0, P 2 is Z.");
        g.gate(0, S);
        due.is("S at 0, 1", g.channel(0, 0, 1, 0), -1);
        due.is("S at 1, 0", g.channel(0, 1, 0, 0), 1);
        due.is("S at 2, 2", g.channel(0, 2, 2, 0), 1);
        due.about(10, "CHANNEL of a TABLE A: for i, j of 0, 1, 2: half of the sum of both places from the left "
            + "above to the right below of P i times A times P j times A TURNED");
        g.one(0);
        g.gate(0, H);
        due.is("H at 0, 2", g.channel(0, 0, 2, 0), 1);
        due.is("H at 2, 0", g.channel(0, 2, 0, 0), 1);
        due.is("H at 1, 1", g.channel(0, 1, 1, 0), -1);
    }

    private static void counts() {
        RootGates g = new RootGates();
        due.about(11, "T-COUNT of a REGISTER. BAD.");
        for (int r = 0; r < 4; r++) {
            due.is("count(" + r + ") of 1", g.count(r), 0);
            g.gate(r, r % 2 == 0 ? T : U);
            due.is("count(" + r + ") of T or U", g.count(r), 1);
            g.gate(r, r % 2 == 0 ? T : U);
            due.is("count(" + r + ") of S", g.count(r), 0);
        }
        for (int bad : Bench.NO_REGISTERS) {
            due.is("count(" + bad + ")", g.count(bad), RootGates.BAD);
        }
        due.about(11, "CHANNEL's F is 0 or more, one for all nine.");
        Bench.make(g, 0, "THT");
        due.is("count of T H T", g.count(0), 2);
        Bench.make(g, 0, "HTHTUHUH");
        due.is("count of 1 that went high", g.count(0), 0);
    }

    private static void countHighest() {
        RootGates g = new RootGates();
        due.about(11, "The E of what is made on the way is not held to 40 but by gate(), ahead(), times(), value().");
        g.gate(0, T);
        for (int i = 1; i <= 79; i++) {
            g.gate(0, H);
            g.gate(0, T);
            due.is("count of T and H T, " + i + " times", g.count(0), i + 1);
        }
        due.is("with E", g.e(0), 40);
    }

    private static void countOfCliffords() {
        RootGates g = new RootGates();
        due.about(11, "T-COUNT of A: F.");
        for (int k = 0; k < 192; k++) {
            g.take(1, k);
            due.is("count of clifford " + k, g.count(1), 0);
        }
    }

    private static void cliffordOrNot() {
        RootGates g = new RootGates();
        due.about(12, "Which CLIFFORD a REGISTER is. BAD; NOT.");
        due.is("of 1", g.clifford(0), 0);
        g.take(3, 191);
        due.is("of the last", g.clifford(3), 191);
        for (String gates : new String[] {"T", "U", "HT", "TH", "HTH", "WT", "XTZ", "SHTS"}) {
            Bench.make(g, 1, gates);
            due.is("of " + gates, g.clifford(1), RootGates.NOT);
        }
        for (int gate : PLAIN) {
            g.one(1);
            g.gate(1, gate);
            due.isTrue("gate " + gate + " is one", g.clifford(1) > 0);
        }
        Bench.make(g, 1, "TT");
        due.is("of T T", g.clifford(1), 2);
        Bench.makeHighest(g, 1, 2);
        due.is("of E 40", g.clifford(1), RootGates.NOT);
        for (int bad : Bench.NO_REGISTERS) {
            due.is("clifford(" + bad + ")", g.clifford(bad), RootGates.BAD);
        }
        due.about(12, "Two TABLES are the same, if all NUMBERS and E are.");
        g.one(0);
        g.gate(0, W);
        due.is("of W, no phase let in", g.clifford(0), 3);
    }

    /** All 192 come by H, S, W from 0, 1, .. in turn, and nothing else comes. */
    private static void numbersAsTheyCome() {
        List<String> tables = new ArrayList<>();
        List<String> words = new ArrayList<>();
        tables.add(tableOf(""));
        words.add("");
        for (int k = 0; k < words.size() && words.size() < 1000; k++) {
            for (char gate : "HSW".toCharArray()) {
                String table = tableOf(words.get(k) + gate);
                if (!tables.contains(table)) {
                    tables.add(table);
                    words.add(words.get(k) + gate);
                }
            }
        }
        due.about(12, "CLIFFORDS: from each one by H, S, W, then from the next one.");
        due.is("how many", words.size(), 192);
        for (int k = 0; k < words.size(); k++) {
            RootGates g = new RootGates();
            Bench.make(g, 2, words.get(k));
            due.is("clifford of " + words.get(k), g.clifford(2), k);
        }
        due.about(13, "CLIFFORDS: all TABLES that are products of H, S, W: 192, numbered as they come first");
        for (int k = 0; k < words.size(); k++) {
            RootGates g = new RootGates();
            g.take(2, k);
            due.isText("clifford " + k, Bench.table(g, 2), tables.get(k));
        }
        due.about(14, "from CLIFFORD 0, 1, .. in turn by H, S, W behind it (the CLIFFORD times the GATE)");
        for (int k = 0; k < words.size(); k++) {
            RootGates g = new RootGates();
            for (int gate : PLAIN) {
                String table = tableOf(words.get(k) + Bench.LETTERS.charAt(gate));
                due.is("leads(" + k + ", " + gate + ")", g.leads(k, gate), tables.indexOf(table));
            }
        }
    }

    private static String tableOf(String gates) {
        RootGates g = new RootGates();
        Bench.make(g, 0, gates);
        return Bench.table(g, 0);
    }

    private static void takeFirstAndLast() {
        RootGates g = new RootGates();
        due.about(13, "A REGISTER becomes CLIFFORD k (0 .. 191): its E. BAD.");
        Bench.makeHighest(g, 0, 1);
        due.is("take(0, 0)", g.take(0, 0), 0);
        due.about(13, "192, numbered as they come first: 0 is 1, 0 and 0, 1;");
        due.isText("clifford 0", Bench.table(g, 0), "0: | 1 0 0 0 | 0 0 0 0 | 0 0 0 0 | 1 0 0 0");
        due.about(13, "A REGISTER becomes CLIFFORD k (0 .. 191): its E. BAD.");
        due.is("take(3, 1)", g.take(3, 1), 1);
        due.is("take(3, 2)", g.take(3, 2), 0);
        due.is("take(3, 191)", g.take(3, 191), g.e(3));
        due.is("clifford(3)", g.clifford(3), 191);
        String held = Bench.table(g, 3);
        for (int bad : Bench.NO_CLIFFORDS) {
            due.is("take(3, " + bad + ")", g.take(3, bad), RootGates.BAD);
        }
        due.isText("register 3", Bench.table(g, 3), held);
        for (int bad : Bench.NO_REGISTERS) {
            due.is("take(" + bad + ", 0)", g.take(bad, 0), RootGates.BAD);
        }
    }

    private static void leadsFirstAndLast() {
        RootGates g = new RootGates();
        due.about(14, "To which CLIFFORD one comes from CLIFFORD k by H, S, X, Z, W (GATES 0, 2, 3, 4, 5) behind it. "
            + "BAD.");
        for (int k : new int[] {0, 191}) {
            for (int gate : PLAIN) {
                g.take(1, k);
                g.gate(1, gate);
                due.is("leads(" + k + ", " + gate + ")", g.leads(k, gate), g.clifford(1));
            }
        }
        for (int bad : Bench.NO_CLIFFORDS) {
            due.is("leads(" + bad + ", 0)", g.leads(bad, 0), RootGates.BAD);
        }
    }

    private static void leadsByPlainGatesAlone() {
        RootGates g = new RootGates();
        due.about(14, "To which CLIFFORD one comes from CLIFFORD k by H, S, X, Z, W (GATES 0, 2, 3, 4, 5) behind it. "
            + "BAD.");
        due.is("leads(0, T)", g.leads(0, T), RootGates.BAD);
        due.is("leads(0, U)", g.leads(0, U), RootGates.BAD);
        for (int bad : Bench.NO_GATES) {
            due.is("leads(0, " + bad + ")", g.leads(0, bad), RootGates.BAD);
        }
    }

    private static void prices() {
        RootGates g = new RootGates();
        due.about(15, "Each has a PRICE (0 .. 9; 1 at first).");
        for (int gate = 0; gate < 7; gate++) {
            due.is("price at first", g.price(gate, 0), 1);
            due.is("price of 0", g.price(gate, 9), 0);
        }
        due.is("all of 9", g.told(2), 63);
        for (int bad : new int[] {-1, 10, 11, Integer.MIN_VALUE, Integer.MAX_VALUE}) {
            due.is("price(0, " + bad + ")", g.price(0, bad), RootGates.BAD);
        }
        for (int bad : Bench.NO_GATES) {
            due.is("price(" + bad + ", 1)", g.price(bad, 1), RootGates.BAD);
        }
        due.is("all stay", g.told(2), 63);
        due.about(15, "PRICE of a GATE becomes v: what it was. BAD.");
        due.is("price(6, 9) of 9", g.price(6, 9), 9);
        due.is("price(6, 3) of 9", g.price(6, 3), 9);
        due.is("price(6, 4) of 3", g.price(6, 4), 3);
        due.is("price(5, 9) of 9", g.price(5, 9), 9);
    }

    private static void cheapestOfNone() {
        RootGates g = new RootGates();
        due.about(16, "NOT: it has not so many.");
        due.is("cheapest(0, -2)", g.cheapest(0, -2), 0);
        due.is("cheapest(0, -1)", g.cheapest(0, -1), 0);
        due.is("cheapest(0, 0)", g.cheapest(0, 0), RootGates.NOT);
        for (int gate = 0; gate < 7; gate++) {
            g.price(gate, 0);
        }
        due.is("cheapest(0, -1) of free ones", g.cheapest(0, -1), 0);
        due.is("cheapest(0, 0) of free ones", g.cheapest(0, 0), RootGates.NOT);
    }

    private static void cheapestPlaces() {
        RootGates g = new RootGates();
        Bench.make(g, 0, "SSS");
        int k = g.clifford(0);
        due.about(16, "CHEAPEST word of CLIFFORD k: COST (i -2), how many GATES (-1), the i-th (0 on).");
        due.is("cost of S Z", g.cheapest(k, -2), 2);
        due.is("how many", g.cheapest(k, -1), 2);
        due.is("the first", g.cheapest(k, 0), S);
        due.is("the last", g.cheapest(k, 1), Z);
        due.is("behind it", g.cheapest(k, 2), RootGates.NOT);
        due.is("far behind it", g.cheapest(k, Integer.MAX_VALUE), RootGates.NOT);
        due.is("of the last CLIFFORD, behind its end", g.cheapest(191, g.cheapest(191, -1)), RootGates.NOT);
        due.isTrue("of the last CLIFFORD, its last", g.cheapest(191, g.cheapest(191, -1) - 1) >= 0);
    }

    private static void cheapestRefused() {
        RootGates g = new RootGates();
        due.about(16, "BAD: k, i below -2; NOT: it has not so many.");
        due.is("cheapest(0, -3)", g.cheapest(0, -3), RootGates.BAD);
        due.is("cheapest(0, least)", g.cheapest(0, Integer.MIN_VALUE), RootGates.BAD);
        for (int bad : Bench.NO_CLIFFORDS) {
            for (int i : new int[] {-3, -2, -1, 0, 1000}) {
                due.is("cheapest(" + bad + ", " + i + ")", g.cheapest(bad, i), RootGates.BAD);
            }
        }
    }

    private static void isCheapest(RootGates g, String gates, String word, int cost) {
        Bench.make(g, 3, gates);
        int k = g.clifford(3);
        due.isText("cheapest of " + gates, Bench.cheapest(g, k), word);
        due.is("its cost", g.cheapest(k, -2), cost);
        due.is("its length", g.cheapest(k, -1), word.length());
    }

    private static void cheapestByCost() {
        RootGates g = new RootGates();
        due.about(16, "of all rows of GATES H, S, X, Z, W that have it as VALUE the one of least COST");
        isCheapest(g, "Z", "Z", 1);
        g.price(Z, 2);
        isCheapest(g, "Z", "Z", 2);
        g.price(Z, 3);
        isCheapest(g, "Z", "SS", 2);
        g.price(S, 0);
        isCheapest(g, "Z", "SS", 0);
        g.price(X, 3);
        isCheapest(g, "X", "HSSH", 2);
        g.price(T, 0);
        g.price(U, 0);
        g.price(S, 9);
        isCheapest(g, "S", "S", 9);
    }

    private static void cheapestByFewest() {
        RootGates g = new RootGates();
        due.about(16, "of like ones of fewest GATES");
        g.price(Z, 2);
        isCheapest(g, "SS", "Z", 2);
        g.price(X, 4);
        isCheapest(g, "HZH", "X", 4);
        g.price(Z, 0);
        g.price(S, 0);
        isCheapest(g, "SS", "Z", 0);
        isCheapest(g, "SSS", "SZ", 0);
    }

    private static void cheapestByNumbers() {
        RootGates g = new RootGates();
        due.about(16, "of like ones the first by numbers of GATES");
        isCheapest(g, "XH", "HZ", 2);
        isCheapest(g, "ZH", "HX", 2);
        isCheapest(g, "WH", "HW", 2);
        isCheapest(g, "ZS", "SZ", 2);
        isCheapest(g, "WS", "SW", 2);
        isCheapest(g, "WX", "XW", 2);
        isCheapest(g, "WZ", "ZW", 2);
        isCheapest(g, "WZS", "SZW", 3);
    }

    /** All prices 0: nothing but how many there are, and their numbers. */
    private static void cheapestOfFree() {
        due.about(16, "Each has a PRICE (0 .. 9; 1 at first).");
        asInModel(new int[] {0, 0, 0, 0, 0, 0, 0});
    }

    private static void cheapestOfDear() {
        due.about(16, "Each has a PRICE (0 .. 9; 1 at first).");
        asInModel(new int[] {9, 9, 9, 9, 9, 9, 9});
    }

    private static void cheapestOfAll() {
        due.about(16, "the one of least COST, of like ones of fewest GATES, of like ones the first by numbers of "
            + "GATES");
        asInModel(new int[] {1, 1, 1, 1, 1, 1, 1});
        asInModel(new int[] {0, 1, 9, 0, 9, 9, 1});
        asInModel(new int[] {9, 0, 0, 9, 9, 9, 0});
        asInModel(new int[] {0, 0, 0, 9, 9, 9, 9});
        asInModel(new int[] {5, 9, 1, 9, 3, 0, 0});
        asInModel(new int[] {2, 1, 3, 7, 6, 9, 1});
    }

    /** One price changes, then all of them at once, then none. */
    private static void cheapestByPricesOfNow() {
        RootGates g = new RootGates();
        due.about(16, "COST: all PRICES of its GATES together.");
        isCheapest(g, "X", "X", 1);
        g.price(X, 9);
        isCheapest(g, "X", "HZH", 3);
        for (int gate : PLAIN) {
            g.price(gate, gate == X ? 3 : gate == Z ? 8 : 0);
        }
        isCheapest(g, "X", "HSSH", 0);
        isCheapest(g, "Z", "SS", 0);
        for (int gate : PLAIN) {
            g.price(gate, 9);
        }
        isCheapest(g, "X", "X", 9);
        isCheapest(g, "Z", "Z", 9);
        g.price(T, 0);
        g.price(U, 0);
        isCheapest(g, "Z", "Z", 9);
    }

    private static void asInModel(int[] prices) {
        for (int k = 0; k < 192; k++) {
            RootGates g = new RootGates();
            for (int gate = 0; gate < 7; gate++) {
                g.price(gate, prices[gate]);
            }
            String word = Model.cheapestOf(k, prices);
            due.isText("cheapest of " + k, Bench.cheapest(g, k), word);
            due.is("its cost", g.cheapest(k, -2), Model.costOf(word, prices));
            due.is("its length", g.cheapest(k, -1), word.length());
        }
    }
}
