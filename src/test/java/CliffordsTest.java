import java.util.HashSet;
import java.util.Set;

/** Promises 12 to 16: clifford, take, leads, price, cheapest. */
public final class CliffordsTest {
    private static final int H = 0, T = 1, S = 2, X = 3, Z = 4, W = 5, U = 6;
    private static final int[] PLAIN = {H, S, X, Z, W};
    private static final Due due = new Due();

    public static void main(String[] args) {
        numbers();
        take();
        leads();
        price();
        cheapest();
        like();
        dear();
        free();
        wrong();
        due.end();
    }

    private static void isNumber(String gates, int k) {
        RootGates g = new RootGates();
        Bench.make(g, 1, gates);
        due.is("clifford of " + gates, g.clifford(1), k);
    }

    /** The first ones as they come from 0, 1, 2 .. by H, S, W. */
    private static void numbers() {
        String[] first = {"", "H", "S", "W", "HS", "HW", "SH", "SS", "SW", "WW", "HSH", "HSS", "HSW", "HWW", "SHS",
            "SHW", "SSH", "SSS", "SSW", "SWW", "WWW", "HSHS", "HSHW", "HSSH"};
        for (int k = 0; k < first.length; k++) {
            isNumber(first[k], k);
        }
        isNumber("X", 23);
        isNumber("Z", 7);
        isNumber("T", RootGates.NOT);
        isNumber("U", RootGates.NOT);
        isNumber("TT", 2);
        isNumber("HTH", RootGates.NOT);
        isNumber("TXTX", 3);
        isNumber("HTHTHT", RootGates.NOT);
    }

    private static void take() {
        RootGates g = new RootGates();
        Set<String> seen = new HashSet<>();
        for (int k = 0; k < 192; k++) {
            due.is("take", g.take(k % 4, k), g.e(k % 4));
            due.is("clifford of taken " + k, g.clifford(k % 4), k);
            StringBuilder table = new StringBuilder();
            for (int i = 0; i < 16; i++) {
                table.append(g.part(k % 4, i / 8, i / 4 % 2, i % 4)).append(' ');
            }
            seen.add(table.append(g.e(k % 4)).toString());
        }
        due.is("tables", seen.size(), 192);
        due.is("take(0, 1)", g.take(0, 1), 1);
        due.is("H", g.part(0, 1, 1, 0), -1);
        due.is("take(0, 0)", g.take(0, 0), 0);
    }

    private static void leads() {
        RootGates g = new RootGates();
        due.is("leads(0, H)", g.leads(0, H), 1);
        due.is("leads(0, S)", g.leads(0, S), 2);
        due.is("leads(0, X)", g.leads(0, X), 23);
        due.is("leads(0, Z)", g.leads(0, Z), 7);
        due.is("leads(0, W)", g.leads(0, W), 3);
        due.is("leads(1, S)", g.leads(1, S), 4);
        due.is("leads(2, H)", g.leads(2, H), 6);
        due.is("leads(23, X)", g.leads(23, X), 0);
        for (int k = 0; k < 192; k++) {
            for (int gate : PLAIN) {
                g.take(0, k);
                g.gate(0, gate);
                due.is("leads(" + k + ", " + gate + ")", g.leads(k, gate), g.clifford(0));
            }
        }
    }

    private static void price() {
        RootGates g = new RootGates();
        for (int gate = 0; gate < 7; gate++) {
            due.is("price at first", g.price(gate, gate + 2), 1);
            due.is("price then", g.price(gate, 9), gate + 2);
            due.is("price of 9", g.price(gate, 0), 9);
            due.is("price of 0", g.price(gate, gate), 0);
        }
        due.is("prices together", g.told(2), 21);
        for (int bad : Bench.NO_GATES) {
            due.is("price gate", g.price(bad, 1), RootGates.BAD);
        }
        for (int bad : new int[] {-1, 10, Integer.MIN_VALUE, Integer.MAX_VALUE}) {
            due.is("price v", g.price(0, bad), RootGates.BAD);
        }
        due.is("prices stay", g.told(2), 21);
    }

    private static void isCheapest(RootGates g, String gates, String word, int cost) {
        Bench.make(g, 3, gates);
        int k = g.clifford(3);
        due.isTrue(gates + " by " + word + ", not " + Bench.cheapest(g, k), Bench.cheapest(g, k).equals(word));
        due.is("cost of " + gates, g.cheapest(k, -2), cost);
        due.is("length of " + gates, g.cheapest(k, -1), word.length());
        due.is("behind its end", g.cheapest(k, word.length()), RootGates.NOT);
        due.is("far behind its end", g.cheapest(k, Integer.MAX_VALUE), RootGates.NOT);
    }

    private static void cheapest() {
        RootGates g = new RootGates();
        isCheapest(g, "", "", 0);
        isCheapest(g, "H", "H", 1);
        isCheapest(g, "HZH", "X", 1);
        isCheapest(g, "SS", "Z", 1);
        isCheapest(g, "SSS", "SZ", 2);
        isCheapest(g, "HSSHS", "XS", 2);
        isCheapest(g, "WWWWWWWWH", "H", 1);
        g.price(Z, 3);
        isCheapest(g, "Z", "SS", 2);
        g.price(Z, 2);
        isCheapest(g, "Z", "Z", 2);
        g.price(X, 9);
        isCheapest(g, "X", "HZH", 4);
        g.price(Z, 9);
        isCheapest(g, "X", "HSSH", 4);
        g.price(T, 0);
        g.price(U, 0);
        isCheapest(g, "TT", "S", 1);
    }

    /** Of words with like cost and length the first by numbers of gates. */
    private static void like() {
        RootGates g = new RootGates();
        isCheapest(g, "XH", "HZ", 2);
        isCheapest(g, "ZH", "HX", 2);
        isCheapest(g, "WS", "SW", 2);
        isCheapest(g, "ZS", "SZ", 2);
        isCheapest(g, "WX", "XW", 2);
    }

    private static void dear() {
        RootGates g = new RootGates();
        g.price(S, 9);
        isCheapest(g, "S", "S", 9);
        g.price(W, 9);
        g.price(H, 0);
        isCheapest(g, "ZXZX", "XZXZ", 4);
        isCheapest(g, "Z", "Z", 1);
        g.price(X, 0);
        isCheapest(g, "Z", "HXH", 0);
    }

    /** With all prices 0 the fewest gates count alone. */
    private static void free() {
        RootGates g = new RootGates();
        for (int gate = 0; gate < 7; gate++) {
            g.price(gate, 0);
        }
        isCheapest(g, "SS", "Z", 0);
        isCheapest(g, "XH", "HZ", 0);
        Model model = new Model();
        for (int gate = 0; gate < 7; gate++) {
            model.call("price", gate, 0);
        }
        for (int k = 0; k < 192; k++) {
            for (int i = -2; i < 17; i++) {
                due.is("cheapest(" + k + ", " + i + ")", g.cheapest(k, i), model.call("cheapest", k, i));
            }
        }
    }

    private static void wrong() {
        RootGates g = new RootGates();
        for (int bad : Bench.NO_REGISTERS) {
            due.is("clifford", g.clifford(bad), RootGates.BAD);
            due.is("take r", g.take(bad, 0), RootGates.BAD);
        }
        for (int bad : Bench.NO_CLIFFORDS) {
            due.is("take k", g.take(0, bad), RootGates.BAD);
            due.is("leads k", g.leads(bad, 0), RootGates.BAD);
            due.is("cheapest k", g.cheapest(bad, 0), RootGates.BAD);
            due.is("cheapest k", g.cheapest(bad, -1), RootGates.BAD);
        }
        for (int bad : Bench.NO_GATES) {
            due.is("leads gate", g.leads(0, bad), RootGates.BAD);
        }
        due.is("leads by T", g.leads(0, T), RootGates.BAD);
        due.is("leads by U", g.leads(0, U), RootGates.BAD);
        due.is("cheapest i", g.cheapest(0, -3), RootGates.BAD);
        due.is("cheapest i", g.cheapest(0, Integer.MIN_VALUE), RootGates.BAD);
        due.is("cheapest(0, 0)", g.cheapest(0, 0), RootGates.NOT);
        due.is("cheapest(191, 0)", g.cheapest(191, 0) >= 0 ? 1 : 0, 1);
    }
}
