import java.util.Random;

/**
 * The document's first sentence, clause by clause, as laws that hold for every table and word: no model is asked, one
 * call is held against another.
 */
public final class OverviewTest {
    private static final int H = 0, T = 1, S = 2, X = 3, Z = 4, W = 5, U = 6;
    private static final int[] PLAIN = {H, S, X, Z, W};
    private static final String UNIT = "0: | 1 0 0 0 | 0 0 0 0 | 0 0 0 0 | 1 0 0 0";
    private static final int RUNS = 60;
    private static final Due due = new Due();
    private static final Random random = new Random(31);

    public static void main(String[] args) {
        for (int run = 0; run < RUNS; run++) {
            turnsExactly();
            behindAndAhead();
            tablesTurned();
            butForAPhase();
            nineRealNumbers();
            howManyAreNeeded();
            normalForms();
            oneOf192();
            shorterWords();
            placeByPlace();
            gatesFound();
            whereTwoPart();
            toldInLetters();
            changesUndone();
            anImage();
        }
        for (int run = 0; run < 6; run++) {
            cheapestWords();
        }
        due.end();
    }

    private static String gates(int most) {
        StringBuilder text = new StringBuilder();
        for (int left = random.nextInt(most + 1); left > 0; left--) {
            text.append(Bench.LETTERS.charAt(random.nextInt(7)));
        }
        return text.toString();
    }

    /** Gates that undo gates, told one by one from the last to the first. */
    private static void takeBack(RootGates g, int r, String gates) {
        for (int i = gates.length() - 1; i >= 0; i--) {
            int gate = Bench.gate(gates.charAt(i));
            int times = gate == S ? 3 : gate == W ? 7 : 1;
            for (int j = 0; j < times; j++) {
                g.gate(r, gate == T ? U : gate == U ? T : gate);
            }
        }
    }

    private static void turnsExactly() {
        RootGates g = new RootGates();
        String gates = gates(50);
        due.about(3, "A bench for turns with roots of two, exactly: tables of numbers with an eighth root");
        Bench.make(g, 0, gates);
        takeBack(g, 0, gates);
        due.isText(gates + " and all of it taken back", Bench.table(g, 0), UNIT);
    }

    private static void behindAndAhead() {
        RootGates g = new RootGates();
        String gates = gates(40);
        int cut = random.nextInt(gates.length() + 1);
        due.about(4, "gates behind and ahead");
        Bench.make(g, 0, gates);
        Bench.make(g, 1, gates.substring(cut));
        for (int i = cut - 1; i >= 0; i--) {
            g.ahead(1, Bench.gate(gates.charAt(i)));
        }
        due.isText(gates + ", the first " + cut + " ahead", Bench.table(g, 1), Bench.table(g, 0));
        Bench.make(g, 2, gates.substring(0, cut));
        Bench.make(g, 3, gates.substring(cut));
        g.times(2, 2, 3);
        due.about(5, "gates behind and ahead");
        due.isText(gates + ", a product of two", Bench.table(g, 2), Bench.table(g, 0));
    }

    private static void tablesTurned() {
        RootGates g = new RootGates();
        String gates = gates(40);
        due.about(6, "tables turned");
        Bench.make(g, 0, gates);
        Bench.make(g, 1, gates);
        due.is("turn of " + gates, g.turn(1), g.e(0));
        g.times(2, 0, 1);
        g.times(3, 1, 0);
        due.isText(gates + " times itself turned", Bench.table(g, 2), UNIT);
        due.isText(gates + " turned times itself", Bench.table(g, 3), UNIT);
        g.turn(1);
        due.isText(gates + " turned twice", Bench.table(g, 1), Bench.table(g, 0));
    }

    private static void butForAPhase() {
        RootGates g = new RootGates();
        String gates = gates(40);
        Bench.make(g, 0, gates);
        Bench.make(g, 1, gates);
        due.about(9, "compared but for a phase");
        for (int j = 0; j < 8; j++) {
            due.is(gates + " with " + j + " W by it without", g.phase(0, 1), j);
            due.is(gates + " without W by it with " + j, g.phase(1, 0), (8 - j) % 8);
            g.gate(0, W);
        }
        g.gate(1, random.nextBoolean() ? H : T);
        due.is(gates + " with another gate", g.phase(0, 1), RootGates.NOT);
    }

    /** x and y of a channel, row by row. */
    private static long[][] channelOf(RootGates g, int r) {
        long[][] xy = new long[9][2];
        for (int at = 0; at < 9; at++) {
            xy[at][0] = g.channel(r, at / 3, at % 3, 0);
            xy[at][1] = g.channel(r, at / 3, at % 3, 1);
        }
        return xy;
    }

    private static long[] sumOfProducts(long[][] left, long[][] right, int i, int j) {
        long x = 0;
        long y = 0;
        for (int k = 0; k < 3; k++) {
            long[] p = left[3 * i + k];
            long[] q = right[3 * k + j];
            x += p[0] * q[0] + 2 * p[1] * q[1];
            y += p[0] * q[1] + p[1] * q[0];
        }
        return new long[] {x, y};
    }

    /** Channels are turned by their mirror, and that of a product is the product of both. */
    private static void nineRealNumbers() {
        RootGates g = new RootGates();
        Bench.make(g, 0, gates(24));
        Bench.make(g, 1, gates(24));
        g.times(2, 0, 1);
        long[][] one = channelOf(g, 0);
        long[][] two = channelOf(g, 1);
        long[][] both = channelOf(g, 2);
        g.turn(0);
        long[][] mirror = channelOf(g, 0);
        int more = g.count(0) + g.count(1) - g.count(2);
        due.about(10, "channels of nine real numbers");
        due.isTrue("a product needs no more than both", more >= 0);
        for (int at = 0; at < 9; at++) {
            long[] sum = sumOfProducts(one, two, at / 3, at % 3);
            long x = both[at][0];
            long y = both[at][1];
            for (int i = 0; i < more; i++) {
                long next = 2 * y;
                y = x;
                x = next;
            }
            due.is("x of a product at " + at, x, sum[0]);
            due.is("y of a product at " + at, y, sum[1]);
            due.is("x turned at " + at, mirror[at][0], one[at % 3 * 3 + at / 3][0]);
            due.is("y turned at " + at, mirror[at][1], one[at % 3 * 3 + at / 3][1]);
        }
    }

    private static int countOf(String gates, String letters) {
        int count = 0;
        for (char c : gates.toCharArray()) {
            count += letters.indexOf(c) >= 0 ? 1 : 0;
        }
        return count;
    }

    private static void howManyAreNeeded() {
        RootGates g = new RootGates();
        String gates = gates(40);
        Bench.make(g, 0, gates);
        int count = g.count(0);
        due.about(11, "and by them how many quarter-eighths are needed");
        due.isTrue("no more than " + gates + " has", count <= countOf(gates, "TU"));
        due.is("odd just if " + gates + " has an odd number", count % 2, countOf(gates, "TU") % 2);
        g.take(1, random.nextInt(192));
        g.times(2, 0, 1);
        due.is(gates + " with a CLIFFORD behind it", g.count(2), count);
        g.times(2, 1, 0);
        due.is(gates + " with a CLIFFORD ahead of it", g.count(2), count);
        g.turn(0);
        due.is(gates + " turned", g.count(0), count);
    }

    private static void normalForms() {
        RootGates g = new RootGates();
        String gates = gates(26);
        Bench.make(g, 0, gates);
        for (int gate = 0; gate < 7; gate++) {
            g.price(gate, random.nextInt(10));
        }
        due.about(22, "normal forms with fewest of these");
        int size = g.normal(1, 0);
        String normal = Bench.word(g, 1);
        due.is("gates of " + normal, size, normal.length());
        due.is("T of " + normal, countOf(normal, "T"), g.count(0));
        due.is("U of " + normal, countOf(normal, "U"), 0);
        g.value(2, 1);
        due.isText(normal + " for " + gates, Bench.table(g, 2), Bench.table(g, 0));
        String pattern = "T?((HT)|(SHT))*[HSXZW]*";
        due.isTrue(normal + " is T, then H T or S H T, then a CLIFFORD", normal.matches(pattern));
        due.is("again", g.normal(1, 2), size);
        due.isText("again", Bench.word(g, 1), normal);
    }

    private static void oneOf192() {
        RootGates g = new RootGates();
        String gates = gates(8);
        Bench.make(g, 0, gates);
        int k = g.clifford(0);
        due.about(12, "what is left as one of 192");
        due.isTrue(gates + " is one just if no T is needed", k >= 0 == (g.count(0) == 0));
        if (k >= 0) {
            due.is("take", g.take(1, k), g.e(0));
            due.isText(gates + " taken", Bench.table(g, 1), Bench.table(g, 0));
        }
    }

    /** The least cost is one that no gate behind another CLIFFORD can undercut, and that one gate reaches. */
    private static void cheapestWords() {
        int[] prices = new int[7];
        int[] costs = new int[192];
        for (int gate = 0; gate < 7; gate++) {
            prices[gate] = random.nextInt(3) == 0 ? 0 : random.nextInt(10);
        }
        due.about(16, "each by its cheapest word for told prices");
        for (int k = 0; k < 192; k++) {
            RootGates g = new RootGates();
            for (int gate = 0; gate < 7; gate++) {
                g.price(gate, prices[gate]);
            }
            costs[k] = g.cheapest(k, -2);
            int to = 0;
            int cost = 0;
            for (int i = 0; i < g.cheapest(k, -1); i++) {
                to = g.leads(to, g.cheapest(k, i));
                cost += prices[g.cheapest(k, i)];
            }
            due.is("the word of " + k, to, k);
            due.is("the cost of " + k, cost, costs[k]);
        }
        for (int k = 0; k < 192; k++) {
            RootGates g = new RootGates();
            for (int gate : PLAIN) {
                int to = g.leads(k, gate);
                due.isTrue("from " + k + " by " + gate + " to " + to, costs[to] <= costs[k] + prices[gate]);
            }
        }
    }

    private static void shorterWords() {
        RootGates g = new RootGates();
        String gates = gates(60);
        due.about(21, "words made shorter by rules");
        Bench.write(g, 0, gates.isEmpty() ? "(H)0" : gates);
        g.value(0, 0);
        int size = g.shorter(0);
        g.value(1, 0);
        due.isTrue(gates + " is not longer", size <= gates.length());
        due.isText(gates + " shorter", Bench.table(g, 1), Bench.table(g, 0));
        String once = Bench.word(g, 0);
        due.isTrue("no rule is left in " + once, !once.matches(".*(HH|XX|ZZ|TU|UT|W{8}|TT|UU|SS|SU|US).*"));
        int changes = g.told(0);
        due.is("again", g.shorter(0), size);
        due.isText("again", Bench.word(g, 0), once);
        due.is("no change by it", g.told(0), changes);
    }

    private static void placeByPlace() {
        RootGates g = new RootGates();
        String gates = gates(60);
        due.about(20, "worked out place by place");
        Bench.push(g, 2, gates);
        Bench.make(g, 1, gates);
        due.is("value of " + gates, g.value(0, 2), g.e(1));
        due.isText(gates, Bench.table(g, 0), Bench.table(g, 1));
    }

    private static void gatesFound() {
        RootGates g = new RootGates();
        String gates = gates(20) + Bench.LETTERS.charAt(random.nextInt(7));
        int place = random.nextInt(gates.length());
        int gate = random.nextInt(7);
        Bench.push(g, 0, gates);
        Bench.make(g, 0, gates.substring(0, place) + Bench.LETTERS.charAt(gate) + gates.substring(place + 1));
        due.about(23, "gates found that make a word a table");
        due.is(gates + " at " + place, g.fits(0, place, 0), 1 << gate);
        due.is("behind its end", g.fits(0, gates.length(), 0), RootGates.BAD);
    }

    private static void whereTwoPart() {
        RootGates g = new RootGates();
        String gates = gates(20);
        String tail = gates(20);
        due.about(24, "where two words part");
        Bench.push(g, 0, gates + "T" + tail);
        Bench.push(g, 1, gates + "H" + tail);
        Bench.push(g, 2, gates);
        due.is("T and H behind " + gates, g.parts(0, 1), gates.length());
        due.is("T and nothing behind " + gates, g.parts(0, 2), gates.length());
        due.is("nothing and H behind " + gates, g.parts(2, 1), gates.length());
        due.is(gates + " and itself", g.parts(2, 2), RootGates.NOT);
    }

    private static void toldInLetters() {
        RootGates g = new RootGates();
        String gates = gates(7) + "H";
        due.about(28, "words told in letters with groups, turned and repeated");
        due.is("write of " + gates, Bench.write(g, 0, gates), gates.length());
        due.isText("the word", Bench.word(g, 0), gates);
        g.value(0, 0);
        due.isTrue("~ of " + gates, Bench.write(g, 1, "~(" + gates + ")") >= gates.length());
        g.value(1, 1);
        g.turn(1);
        due.isText("~ of " + gates + " turned", Bench.table(g, 1), Bench.table(g, 0));
        due.is("three of " + gates, Bench.write(g, 2, "(" + gates + ")3"), 3 * gates.length());
        due.isText("three", Bench.word(g, 2), gates.repeat(3));
    }

    private static void changesUndone() {
        RootGates g = new RootGates();
        String[] before = new String[9];
        int changes = random.nextInt(9);
        for (int i = 0; i <= changes; i++) {
            before[i] = Bench.word(g, 0) + "," + Bench.word(g, 1) + "," + Bench.word(g, 2);
            if (i < changes) {
                change(g, i % 3, i);
            }
        }
        due.about(25, "changes undone");
        due.is("changes", g.told(0), changes);
        for (int i = changes - 1; i >= 0; i--) {
            due.is("undo", g.undo(), i);
            due.isText("words", Bench.word(g, 0) + "," + Bench.word(g, 1) + "," + Bench.word(g, 2), before[i]);
        }
        due.is("undo of none", g.undo(), RootGates.STATE);
    }

    /** Each makes the word otherwise. */
    private static void change(RootGates g, int word, int i) {
        int size = g.word(word, -1);
        switch (random.nextInt(3)) {
            case 0 -> g.push(word, random.nextInt(7));
            case 1 -> Bench.write(g, word, "(HT)" + (1 + i));
            default -> {
                if (size == 0) {
                    g.push(word, S);
                } else {
                    g.pull(word);
                }
            }
        }
    }

    private static void anImage() {
        RootGates g = new RootGates();
        String gates = gates(20);
        String other = gates(20);
        Bench.make(g, 3, gates);
        Bench.push(g, 1, gates);
        g.price(X, 7);
        String table = Bench.table(g, 3);
        due.about(29, "an image");
        due.is("image", g.image(), gates.length());
        Bench.make(g, 3, other);
        Bench.write(g, 1, "~H");
        Bench.push(g, 0, other);
        g.price(X, 0);
        g.price(Z, 3);
        due.is("restore", g.restore(), gates.length());
        due.isText("the register", Bench.table(g, 3), table);
        due.isText("the words", Bench.word(g, 0) + "," + Bench.word(g, 1), "," + gates);
        due.is("the prices", g.told(2), 13);
        due.is("that of X", g.price(X, 1), 7);
    }
}
