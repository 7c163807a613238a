/** Each sentence that names a boundary, promises 1 to 9: a new object, registers and what is made of them. */
public final class BoundsOfTablesTest {
    private static final int H = 0, T = 1, S = 2, X = 3, Z = 4, W = 5, U = 6;
    private static final String UNIT = "0: | 1 0 0 0 | 0 0 0 0 | 0 0 0 0 | 1 0 0 0";
    private static final Due due = new Due();

    public static void main(String[] args) {
        newObject();
        newObjectsByThemselves();
        registers();
        oneTellsE();
        tablesOfGates();
        noSuchGate();
        eighthRoot();
        productOfNumbers();
        multiplesOfR();
        lowestForm();
        gateUpTo40();
        gateByLowestForm();
        badAheadOfState();
        aheadUpTo40();
        aheadIsAhead();
        timesUpTo40();
        timesByLowestForm();
        timesOnItself();
        turned();
        partsOfNumbers();
        partOutOfRange();
        largestParts();
        eOfRegisters();
        phases();
        due.end();
    }

    private static void newObject() {
        RootGates g = new RootGates();
        due.about(1, "REGISTERS 1, 0 and 0, 1; WORDS of none.");
        for (int r = 0; r < 4; r++) {
            due.isText("register " + r, Bench.table(g, r), UNIT);
        }
        for (int word = 0; word < 3; word++) {
            due.is("word(" + word + ", -1)", g.word(word, -1), 0);
            due.is("word(" + word + ", 0)", g.word(word, 0), RootGates.NOT);
        }
        due.about(1, "REGISTERS 0 .. 3 hold a TABLE each, with E 40 at most (1, 0 and 0, 1 at first).");
        due.is("e(3)", g.e(3), 0);
        due.about(1, "Each has a PRICE (0 .. 9; 1 at first).");
        for (int gate = 0; gate < 7; gate++) {
            due.is("price of gate " + gate, g.price(gate, 1), 1);
        }
        due.is("told(2)", g.told(2), 7);
        due.about(1, "rows of GATES (60 at most; none at first)");
        due.is("image()", new RootGates().image(), 0);
        due.about(1, "THE TAPE holds 0 .. 80 bytes 32 .. 126.");
        due.is("told(1)", g.told(1), 0);
        due.is("write(0)", g.write(0), -100);
        due.about(1, "STATE: there is none.");
        due.is("undo()", g.undo(), RootGates.STATE);
        due.is("restore()", g.restore(), RootGates.STATE);
    }

    private static void newObjectsByThemselves() {
        RootGates g = new RootGates();
        g.gate(0, H);
        g.push(0, H);
        g.price(0, 9);
        g.feed('H');
        g.image();
        due.about(1, "REGISTERS 1, 0 and 0, 1; WORDS of none.");
        RootGates other = new RootGates();
        due.isText("register 0 of another object", Bench.table(other, 0), UNIT);
        due.is("word 0", other.word(0, -1), 0);
        due.is("changes", other.told(0), 0);
        due.is("bytes", other.told(1), 0);
        due.is("prices", other.told(2), 7);
        due.is("restore()", other.restore(), RootGates.STATE);
    }

    private static void registers() {
        RootGates g = new RootGates();
        for (int r = 0; r < 4; r++) {
            due.about(2, "A REGISTER becomes 1, 0 and 0, 1: its E as it was. BAD.");
            due.is("one(" + r + ")", g.one(r), 0);
            due.about(3, "A REGISTER becomes it times a GATE: its E. BAD; STATE.");
            due.is("gate(" + r + ", X)", g.gate(r, X), 0);
            due.about(4, "A REGISTER becomes a GATE times it: its E. BAD; STATE.");
            due.is("ahead(" + r + ", X)", g.ahead(r, X), 0);
            due.about(5, "REGISTER r becomes the product of s and t: its E. BAD; STATE.");
            due.is("times(" + r + ", 3 - r, r)", g.times(r, 3 - r, r), 0);
            due.about(6, "A REGISTER is TURNED: its E. BAD.");
            due.is("turn(" + r + ")", g.turn(r), 0);
            due.about(9, "PHASE of a REGISTER by another one. BAD; NOT: by none.");
            due.is("phase(" + r + ", 3 - r)", g.phase(r, 3 - r), 0);
        }
        for (int bad : Bench.NO_REGISTERS) {
            due.about(2, "A REGISTER becomes 1, 0 and 0, 1: its E as it was. BAD.");
            due.is("one(" + bad + ")", g.one(bad), RootGates.BAD);
            due.about(3, "A REGISTER becomes it times a GATE: its E. BAD; STATE.");
            due.is("gate(" + bad + ", X)", g.gate(bad, X), RootGates.BAD);
            due.about(4, "A REGISTER becomes a GATE times it: its E. BAD; STATE.");
            due.is("ahead(" + bad + ", X)", g.ahead(bad, X), RootGates.BAD);
            due.about(5, "REGISTER r becomes the product of s and t: its E. BAD; STATE.");
            due.is("times(" + bad + ", 0, 0)", g.times(bad, 0, 0), RootGates.BAD);
            due.is("times(0, " + bad + ", 0)", g.times(0, bad, 0), RootGates.BAD);
            due.is("times(0, 0, " + bad + ")", g.times(0, 0, bad), RootGates.BAD);
            due.about(6, "A REGISTER is TURNED: its E. BAD.");
            due.is("turn(" + bad + ")", g.turn(bad), RootGates.BAD);
            due.about(8, "E of a REGISTER. BAD.");
            due.is("e(" + bad + ")", g.e(bad), RootGates.BAD);
            due.about(9, "PHASE of a REGISTER by another one. BAD; NOT: by none.");
            due.is("phase(" + bad + ", 0)", g.phase(bad, 0), RootGates.BAD);
            due.is("phase(0, " + bad + ")", g.phase(0, bad), RootGates.BAD);
        }
        for (int r = 0; r < 4; r++) {
            due.about(5, "BAD (-1): no such one, a number out of its range.");
            due.isText("register " + r, Bench.table(g, r), UNIT);
        }
    }

    private static void oneTellsE() {
        RootGates g = new RootGates();
        due.about(2, "one() answers E as it was ahead.");
        Bench.makeHighest(g, 3, 2);
        due.is("one(3) of E 40", g.one(3), 40);
        due.isText("register 3", Bench.table(g, 3), UNIT);
        due.is("one(3) of E 0", g.one(3), 0);
        due.isText("register 3", Bench.table(g, 3), UNIT);
    }

    private static void tablesOfGates() {
        String[] tables = {"1: | 1 0 0 0 | 1 0 0 0 | 1 0 0 0 | -1 0 0 0", "0: | 1 0 0 0 | 0 0 0 0 | 0 0 0 0 | 0 1 0 0",
            "0: | 1 0 0 0 | 0 0 0 0 | 0 0 0 0 | 0 0 1 0", "0: | 0 0 0 0 | 1 0 0 0 | 1 0 0 0 | 0 0 0 0",
            "0: | 1 0 0 0 | 0 0 0 0 | 0 0 0 0 | -1 0 0 0", "0: | 0 1 0 0 | 0 0 0 0 | 0 0 0 0 | 0 1 0 0",
            "0: | 1 0 0 0 | 0 0 0 0 | 0 0 0 0 | 0 0 0 -1"};
        RootGates g = new RootGates();
        for (int gate = 0; gate < 7; gate++) {
            g.one(0);
            due.about(3, "GATES: 0 H: 1, 1 and 1, -1, E 1. 1 T: 1, 0 and 0, w. 2 S: 1, 0 and 0, ww. "
                + "3 X: 0, 1 and 1, 0. 4 Z: 1, 0 and 0, -1. 5 W: w, 0 and 0, w. 6 U: T TURNED. (E 0 but of H.)");
            due.is("gate(0, " + gate + ")", g.gate(0, gate), gate == H ? 1 : 0);
            due.isText("gate " + gate, Bench.table(g, 0), tables[gate]);
            g.one(0);
            due.about(4, "(E 0 but of H.)");
            due.is("ahead(0, " + gate + ")", g.ahead(0, gate), gate == H ? 1 : 0);
            due.isText("gate " + gate, Bench.table(g, 0), tables[gate]);
        }
        g.one(0);
        g.gate(0, T);
        g.turn(0);
        due.about(6, "6 U: T TURNED.");
        due.isText("T turned", Bench.table(g, 0), tables[U]);
    }

    private static void noSuchGate() {
        RootGates g = new RootGates();
        for (int bad : Bench.NO_GATES) {
            due.about(3, "BAD (-1): no such one, a number out of its range.");
            due.is("gate(0, " + bad + ")", g.gate(0, bad), RootGates.BAD);
            due.about(4, "BAD (-1): no such one, a number out of its range.");
            due.is("ahead(0, " + bad + ")", g.ahead(0, bad), RootGates.BAD);
        }
        due.about(3, "nothing changes but where it is told");
        due.isText("register 0", Bench.table(g, 0), UNIT);
    }

    private static void eighthRoot() {
        RootGates g = new RootGates();
        due.about(3, "1 NUMBERS (a, b, c, d): whole; a and b times w, c times ww, d times www, together, "
            + "wwww being -1.");
        for (int i = 1; i <= 8; i++) {
            g.gate(0, W);
            g.gate(1, T);
            g.gate(2, U);
            due.is("1 times w, " + i + " times", g.part(0, 0, 0, i % 4), i >= 4 && i < 8 ? -1 : 1);
            due.is("T, " + i + " times", g.part(1, 1, 1, i % 4), i >= 4 && i < 8 ? -1 : 1);
            due.is("U, " + i + " times", g.part(2, 1, 1, (8 - i) % 4), i > 0 && i <= 4 ? -1 : 1);
        }
        due.isText("W, eight times", Bench.table(g, 0), UNIT);
        due.isText("T, eight times", Bench.table(g, 1), UNIT);
        due.isText("U, eight times", Bench.table(g, 2), UNIT);
        for (int i = 0; i < 8; i++) {
            g.ahead(0, W);
            g.ahead(1, S);
        }
        due.about(4, "a and b times w, c times ww, d times www, together, wwww being -1.");
        due.isText("W ahead, eight times", Bench.table(g, 0), UNIT);
        due.isText("S ahead, eight times", Bench.table(g, 1), UNIT);
    }

    /** Both tables have numbers of four parts; what R takes away in lowest form is put back ahead of comparing. */
    private static void productOfNumbers() {
        RootGates g = new RootGates();
        Bench.make(g, 0, "HTHTHTSHT");
        Bench.make(g, 1, "SHTHTSHTHTXHT");
        int e = g.e(0) + g.e(1);
        g.times(2, 0, 1);
        due.about(5, "The product of (a, b, c, d) and (e, f, g, h): a e - b h - c g - d f; a f + b e - c h - d g; "
            + "a g + b f + c e - d h; a h + b g + c f + d e.");
        for (int at = 0; at < 4; at++) {
            int row = at / 2;
            int column = at % 2;
            long[] want = new long[4];
            for (int k = 0; k < 2; k++) {
                long[] term = productOf(numberOf(g, 0, row, k), numberOf(g, 1, k, column));
                for (int i = 0; i < 4; i++) {
                    want[i] += term[i];
                }
            }
            long[] got = numberOf(g, 2, row, column);
            for (int i = g.e(2); i < e; i++) {
                got = productOf(got, new long[] {0, 1, 0, -1});
            }
            for (int i = 0; i < 4; i++) {
                due.is("part " + i + " at " + row + ", " + column, got[i], want[i]);
            }
        }
        due.about(3, "R is (0, 1, 0, -1) (R times R is (2, 0, 0, 0))");
        // R over R R is 1 over R
        Bench.make(g, 3, "HSHS");
        due.is("H S H S H", g.gate(3, H), 0);
        due.isText("H S H S H", Bench.table(g, 3), "0: | 0 1 0 0 | 0 0 0 0 | 0 0 0 0 | 0 0 0 -1");
    }

    private static long[] numberOf(RootGates g, int r, int row, int column) {
        return new long[] {g.part(r, row, column, 0), g.part(r, row, column, 1), g.part(r, row, column, 2),
            g.part(r, row, column, 3)};
    }

    private static long[] productOf(long[] n, long[] m) {
        return new long[] {n[0] * m[0] - n[1] * m[3] - n[2] * m[2] - n[3] * m[1],
            n[0] * m[1] + n[1] * m[0] - n[2] * m[3] - n[3] * m[2],
            n[0] * m[2] + n[1] * m[1] + n[2] * m[0] - n[3] * m[3],
            n[0] * m[3] + n[1] * m[2] + n[2] * m[1] + n[3] * m[0]};
    }

    private static void multiplesOfR() {
        RootGates g = new RootGates();
        due.about(3, "a NUMBER is a multiple of R just if a and c, and b and d, together are even");
        Bench.make(g, 0, "HT");
        // 1 + w and 1 - w: a and c together odd, b and d too
        due.is("H T H", g.gate(0, H), 2);
        due.isText("H T H", Bench.table(g, 0), "2: | 1 1 0 0 | 1 -1 0 0 | 1 -1 0 0 | 1 1 0 0");
        Bench.make(g, 0, "HS");
        // 1 + ww and 1 - ww: both even
        due.is("H S H", g.gate(0, H), 1);
        due.isText("H S H", Bench.table(g, 0), "1: | 0 1 0 0 | 0 0 0 -1 | 0 0 0 -1 | 0 1 0 0");
        Bench.make(g, 0, "HTTTH");
        due.isText("H T T T H", Bench.table(g, 0), "2: | 1 0 0 1 | 1 0 0 -1 | 1 0 0 -1 | 1 0 0 1");
        Bench.make(g, 0, "HTHT");
        due.is("H T H T H", g.gate(0, H), 2);
        due.about(5, "a NUMBER is a multiple of R just if a and c, and b and d, together are even");
        Bench.make(g, 1, "HT");
        Bench.make(g, 2, "TH");
        Bench.make(g, 3, "H");
        due.is("H T times T H", g.times(0, 1, 2), 1);
        due.is("H T times H", g.times(0, 1, 3), 2);
    }

    private static void lowestForm() {
        RootGates g = new RootGates();
        g.gate(0, H);
        g.gate(1, H);
        due.about(3, "It stands in LOWEST form: E is 0, or not all four are multiples of R.");
        due.is("H H", g.gate(0, H), 0);
        due.isText("H H", Bench.table(g, 0), UNIT);
        due.about(4, "It stands in LOWEST form: E is 0, or not all four are multiples of R.");
        due.is("H H ahead", g.ahead(1, H), 0);
        due.isText("H H ahead", Bench.table(g, 1), UNIT);
        due.about(5, "It stands in LOWEST form: E is 0, or not all four are multiples of R.");
        g.gate(0, H);
        due.is("H times H", g.times(0, 0, 0), 0);
        due.isText("H times H", Bench.table(g, 0), UNIT);
        due.is("1 times 1", g.times(0, 0, 0), 0);
        due.isText("1 times 1", Bench.table(g, 0), UNIT);
        due.about(5, "Product of two: as of tables, the E's together, brought to LOWEST form.");
        Bench.makeHighest(g, 0, 3);
        g.times(1, 0, 3);
        due.is("of E 40 turned", g.turn(1), 40);
        due.is("a table by its turned one", g.times(2, 0, 1), 0);
        due.isText("a table by its turned one", Bench.table(g, 2), UNIT);
    }

    private static void gateUpTo40() {
        RootGates g = new RootGates();
        due.about(3, "REGISTERS 0 .. 3 hold a TABLE each, with E 40 at most (1, 0 and 0, 1 at first).");
        for (int i = 1; i <= 79; i++) {
            due.is("H T, " + i + " times, H", g.gate(0, H), i / 2 + 1);
            due.is("H T, " + i + " times", g.gate(0, T), i / 2 + 1);
        }
        String held = Bench.table(g, 0);
        due.about(3, "STATE (-5): E would be above 40; or as told.");
        due.is("H behind H T, 79 times", g.gate(0, H), RootGates.STATE);
        due.is("H again", g.gate(0, H), RootGates.STATE);
        due.isText("register 0", Bench.table(g, 0), held);
        due.is("Z", g.gate(0, Z), 40);
        due.is("H behind Z", g.gate(0, H), RootGates.STATE);
        due.is("Z again", g.gate(0, Z), 40);
        due.isText("register 0", Bench.table(g, 0), held);
    }

    /** H makes E 41 ahead of lowest form in each of these calls; just the last one is above 40 in lowest form. */
    private static void gateByLowestForm() {
        RootGates g = new RootGates();
        Bench.makeHighest(g, 0, 1);
        due.about(3, "The E of what is made on the way is not held to 40 but by gate(), ahead(), times(), value().");
        due.is("U behind H T, 79 times", g.gate(0, U), 40);
        due.is("H behind it", g.gate(0, H), 40);
        due.is("U behind H T, 78 times", g.gate(0, U), 40);
        due.is("H behind it", g.gate(0, H), 39);
        due.is("H again", g.gate(0, H), 40);
        g.gate(0, T);
        due.is("H then", g.gate(0, H), 40);
        g.gate(0, T);
        due.is("H at last", g.gate(0, H), RootGates.STATE);
    }

    private static void badAheadOfState() {
        RootGates g = new RootGates();
        Bench.makeHighest(g, 0, 1);
        due.about(3, "of several the first as the call's words name them");
        due.is("gate(0, 7)", g.gate(0, 7), RootGates.BAD);
        due.is("gate(0, H)", g.gate(0, H), RootGates.STATE);
        g.turn(0);
        due.about(4, "of several the first as the call's words name them");
        due.is("ahead(0, 7)", g.ahead(0, 7), RootGates.BAD);
        due.is("ahead(0, H)", g.ahead(0, H), RootGates.STATE);
        due.about(5, "of several the first as the call's words name them");
        due.is("times(4, 0, 0)", g.times(4, 0, 0), RootGates.BAD);
        due.is("times(0, 0, 0)", g.times(0, 0, 0), RootGates.STATE);
    }

    private static void aheadUpTo40() {
        RootGates g = new RootGates();
        due.about(4, "REGISTERS 0 .. 3 hold a TABLE each, with E 40 at most (1, 0 and 0, 1 at first).");
        for (int i = 1; i <= 79; i++) {
            due.is("T H, " + i + " times, H", g.ahead(3, H), i / 2 + 1);
            due.is("T H, " + i + " times", g.ahead(3, T), i / 2 + 1);
        }
        String held = Bench.table(g, 3);
        due.about(4, "STATE (-5): E would be above 40; or as told.");
        due.is("H ahead of T H, 79 times", g.ahead(3, H), RootGates.STATE);
        due.isText("register 3", Bench.table(g, 3), held);
        due.about(4, "The E of what is made on the way is not held to 40 but by gate(), ahead(), times(), value().");
        due.is("U", g.ahead(3, U), 40);
        due.is("H ahead of H", g.ahead(3, H), 40);
    }

    private static void aheadIsAhead() {
        RootGates g = new RootGates();
        due.about(4, "A REGISTER becomes a GATE times it: its E. BAD; STATE.");
        g.ahead(0, X);
        g.ahead(0, T);
        due.isText("T X", Bench.table(g, 0), "0: | 0 0 0 0 | 1 0 0 0 | 0 1 0 0 | 0 0 0 0");
        due.about(3, "A REGISTER becomes it times a GATE: its E. BAD; STATE.");
        g.gate(1, X);
        g.gate(1, T);
        due.isText("X T", Bench.table(g, 1), "0: | 0 0 0 0 | 0 1 0 0 | 1 0 0 0 | 0 0 0 0");
    }

    /** H T, so many times, has half as many and 1 as its E. */
    private static void timesUpTo40() {
        RootGates g = new RootGates();
        Bench.make(g, 0, "HT".repeat(39));
        Bench.make(g, 1, "HT".repeat(40));
        g.gate(3, X);
        String held = Bench.table(g, 3);
        due.about(5, "STATE (-5): E would be above 40; or as told.");
        due.is("E of 39", g.e(0), 20);
        due.is("E of 40", g.e(1), 21);
        due.is("40 and 40", g.times(3, 1, 1), RootGates.STATE);
        due.isText("register 3", Bench.table(g, 3), held);
        due.is("40 and 40 in one of them", g.times(1, 1, 1), RootGates.STATE);
        due.is("E of 40", g.e(1), 21);
        due.about(5, "REGISTERS 0 .. 3 hold a TABLE each, with E 40 at most (1, 0 and 0, 1 at first).");
        due.is("39 and 39", g.times(3, 0, 0), 40);
        due.is("E of 78", g.e(3), 40);
    }

    private static void timesByLowestForm() {
        RootGates g = new RootGates();
        Bench.make(g, 0, "HT".repeat(39));
        Bench.make(g, 1, "HT".repeat(40));
        due.about(5, "The E of what is made on the way is not held to 40 but by gate(), ahead(), times(), value().");
        due.is("39 and 40, the E's together 41", g.times(3, 0, 1), 40);
        due.is("40 and 39", g.times(3, 1, 0), 40);
    }

    private static void timesOnItself() {
        due.about(5, "REGISTER r becomes the product of s and t: its E. BAD; STATE.");
        String xt = "0: | 0 0 0 0 | 0 1 0 0 | 1 0 0 0 | 0 0 0 0";
        for (int r = 0; r < 3; r++) {
            RootGates g = new RootGates();
            g.gate(0, X);
            g.gate(1, T);
            due.is("times(" + r + ", 0, 1)", g.times(r, 0, 1), 0);
            due.isText("X T in register " + r, Bench.table(g, r), xt);
        }
        RootGates g = new RootGates();
        g.gate(3, S);
        g.times(3, 3, 3);
        due.isText("S S", Bench.table(g, 3), "0: | 1 0 0 0 | 0 0 0 0 | 0 0 0 0 | -1 0 0 0");
    }

    private static void turned() {
        RootGates g = new RootGates();
        Bench.make(g, 0, "HTHTHTHT");
        long[] was = new long[16];
        for (int i = 0; i < 16; i++) {
            was[i] = g.part(0, i / 8, i / 4 % 2, i % 4);
        }
        due.about(6, "CONJUGATE: (a, -d, -c, -b).");
        due.is("turn(0)", g.turn(0), g.e(0));
        for (int row = 0; row < 2; row++) {
            for (int column = 0; column < 2; column++) {
                int from = column * 8 + row * 4;
                due.is("a", g.part(0, row, column, 0), was[from]);
                due.is("b", g.part(0, row, column, 1), -was[from + 3]);
                due.is("c", g.part(0, row, column, 2), -was[from + 2]);
                due.is("d", g.part(0, row, column, 3), -was[from + 1]);
            }
        }
        due.about(6, "TURNED: rows and columns changed, each NUMBER its CONJUGATE.");
        g.turn(0);
        for (int i = 0; i < 16; i++) {
            due.is("turned twice, part " + i, g.part(0, i / 8, i / 4 % 2, i % 4), was[i]);
        }
        due.is("turn of 1", g.turn(1), 0);
        due.isText("1 turned", Bench.table(g, 1), UNIT);
        Bench.makeHighest(g, 2, 3);
        due.is("turn of E 40", g.turn(2), 40);
        due.is("e(2)", g.e(2), 40);
    }

    private static void partsOfNumbers() {
        RootGates g = new RootGates();
        due.about(7, "Of a REGISTER's NUMBER in a row and column a, b, c, d (i 0 .. 3).");
        for (int i = 0; i < 4; i++) {
            for (int at = 0; at < 4; at++) {
                due.is("part " + i + " of w, " + i + " times", g.part(3, at / 2, at % 2, i), at / 2 == at % 2 ? 1 : 0);
                due.is("another part", g.part(3, at / 2, at % 2, (i + 1) % 4), 0);
            }
            g.gate(3, W);
        }
        Bench.make(g, 0, "XT");
        due.about(7, "A TABLE: four NUMBERS, in rows 0, 1 and columns 0, 1, and an E (0 or more)");
        due.is("row 0, column 1", g.part(0, 0, 1, 1), 1);
        due.is("row 1, column 0", g.part(0, 1, 0, 0), 1);
    }

    private static void partOutOfRange() {
        RootGates g = new RootGates();
        due.about(7, "VOID: BAD.");
        for (int bad : Bench.NO_REGISTERS) {
            due.is("part(" + bad + ", 0, 0, 0)", g.part(bad, 0, 0, 0), RootGates.VOID);
            due.is("part(0, 0, 0, " + bad + ")", g.part(0, 0, 0, bad), RootGates.VOID);
        }
        for (int bad : new int[] {-1, 2, 3, Integer.MIN_VALUE, Integer.MAX_VALUE}) {
            due.is("part(0, " + bad + ", 0, 0)", g.part(0, bad, 0, 0), RootGates.VOID);
            due.is("part(0, 0, " + bad + ", 0)", g.part(0, 0, bad, 0), RootGates.VOID);
        }
        due.about(7, "VOID: the least long.");
        due.is("VOID", RootGates.VOID, Long.MIN_VALUE);
        due.is("part(-1, -1, -1, -1)", g.part(-1, -1, -1, -1), Long.MIN_VALUE);
    }

    /** All parts of tables with E 40, as the model has them in numbers without a bound. */
    private static void largestParts() {
        RootGates g = new RootGates();
        Model model = new Model();
        due.about(7, "REGISTERS 0 .. 3 hold a TABLE each, with E 40 at most (1, 0 and 0, 1 at first).");
        for (int i = 0; i < 158; i++) {
            g.gate(1, i % 2 == 0 ? H : T);
            model.call("gate", 1, i % 2 == 0 ? H : T);
        }
        for (int i = 0; i < 16; i++) {
            due.is("part " + i + " of E 40", g.part(1, i / 8, i / 4 % 2, i % 4),
                model.call("part", 1, i / 8, i / 4 % 2, i % 4));
        }
    }

    private static void eOfRegisters() {
        RootGates g = new RootGates();
        due.about(8, "and an E (0 or more): each NUMBER is over R to the E");
        due.is("e(0) at first", g.e(0), 0);
        g.gate(0, H);
        g.gate(0, H);
        due.is("e(0) of H H", g.e(0), 0);
        due.about(8, "E of a REGISTER. BAD.");
        Bench.makeHighest(g, 3, 0);
        due.is("e(3) at the most", g.e(3), 40);
        due.is("e(3) is asked again", g.e(3), 40);
        due.is("e(0)", g.e(0), 0);
        due.is("e(4)", g.e(4), RootGates.BAD);
        due.is("e(-1)", g.e(-1), RootGates.BAD);
    }

    private static void phases() {
        RootGates g = new RootGates();
        Bench.make(g, 0, "HT");
        Bench.make(g, 1, "HT");
        due.about(9, "PHASE of one by another: the least j (0 .. 7) by which W's VALUE, j times, times the other is "
            + "the one.");
        for (int j = 0; j <= 16; j++) {
            due.is("phase(0, 1) of w, " + j + " times", g.phase(0, 1), j % 8);
            due.is("phase(1, 0)", g.phase(1, 0), (16 - j) % 8);
            g.gate(0, W);
        }
        due.about(9, "phase() of one by itself: 0.");
        for (int r = 0; r < 4; r++) {
            due.is("phase(" + r + ", " + r + ")", g.phase(r, r), 0);
        }
        due.about(9, "PHASE of a REGISTER by another one. BAD; NOT: by none.");
        due.is("of other E", g.phase(0, 2), RootGates.NOT);
        g.gate(2, T);
        due.is("of like E", g.phase(2, 3), RootGates.NOT);
        due.is("and the other way about", g.phase(3, 2), RootGates.NOT);
        due.about(9, "Two TABLES are the same, if all NUMBERS and E are.");
        Bench.make(g, 2, "H");
        Bench.make(g, 3, "HZ");
        due.is("H by H Z", g.phase(2, 3), RootGates.NOT);
        // otherwise in just one part, the first or the last of all
        Bench.make(g, 2, "");
        Bench.make(g, 3, "ZWWWW");
        due.is("1 by -1, 0 and 0, 1", g.phase(2, 3), RootGates.NOT);
        Bench.make(g, 2, "TTT");
        Bench.make(g, 3, "TTTZ");
        due.is("T T T by T T T Z", g.phase(2, 3), RootGates.NOT);
        Bench.makeHighest(g, 2, 3);
        g.one(3);
        g.times(3, 2, 3);
        g.ahead(3, W);
        due.is("of E 40", g.phase(2, 3), 7);
        due.is("of E 40", g.phase(3, 2), 1);
    }
}
