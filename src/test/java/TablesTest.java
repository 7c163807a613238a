/** Promises 1 to 9: a new object, one, gate, ahead, times, turn, part, e, phase. */
public final class TablesTest {
    private static final int H = 0, T = 1, S = 2, X = 3, Z = 4, W = 5, U = 6;
    private static final Due due = new Due();

    public static void main(String[] args) {
        newObject();
        one();
        gate();
        ahead();
        times();
        turn();
        part();
        phase();
        eachByItself();
        highest();
        due.end();
    }

    /** Four numbers of four parts, row by row, and E. */
    private static void isTable(String what, RootGates g, int r, int e, long... parts) {
        due.is(what + ": e", g.e(r), e);
        for (int i = 0; i < 16; i++) {
            due.is(what + ": part " + i, g.part(r, i / 8, i / 4 % 2, i % 4), parts[i]);
        }
    }

    private static void isUnit(String what, RootGates g, int r) {
        isTable(what, g, r, 0, 1, 0, 0, 0, 0, 0, 0, 0, 0, 0, 0, 0, 1, 0, 0, 0);
    }

    private static void newObject() {
        RootGates g = new RootGates();
        for (int r = 0; r < 4; r++) {
            isUnit("new register " + r, g, r);
        }
        for (int word = 0; word < 3; word++) {
            due.is("new word", g.word(word, -1), 0);
        }
        due.is("new changes", g.told(0), 0);
        due.is("new tape", g.told(1), 0);
        due.is("new prices", g.told(2), 7);
        due.is("no image", g.restore(), RootGates.STATE);
        due.is("VOID", RootGates.VOID, Long.MIN_VALUE);
    }

    private static void one() {
        RootGates g = new RootGates();
        g.gate(3, H);
        g.gate(3, T);
        g.gate(2, H);
        due.is("one(3)", g.one(3), 1);
        isUnit("one", g, 3);
        due.is("one(3) again", g.one(3), 0);
        due.is("register 2 stays", g.e(2), 1);
        for (int r : Bench.NO_REGISTERS) {
            due.is("one", g.one(r), RootGates.BAD);
            due.is("e", g.e(r), RootGates.BAD);
        }
    }

    private static void gate() {
        RootGates g = new RootGates();
        due.is("gate(0, H)", g.gate(0, H), 1);
        isTable("H", g, 0, 1, 1, 0, 0, 0, 1, 0, 0, 0, 1, 0, 0, 0, -1, 0, 0, 0);
        due.is("gate(0, T)", g.gate(0, T), 1);
        isTable("H T", g, 0, 1, 1, 0, 0, 0, 0, 1, 0, 0, 1, 0, 0, 0, 0, -1, 0, 0);
        due.is("gate(0, X)", g.gate(0, X), 1);
        isTable("H T X", g, 0, 1, 0, 1, 0, 0, 1, 0, 0, 0, 0, -1, 0, 0, 1, 0, 0, 0);
        due.is("gate(0, S)", g.gate(0, S), 1);
        isTable("H T X S", g, 0, 1, 0, 1, 0, 0, 0, 0, 1, 0, 0, -1, 0, 0, 0, 0, 1, 0);
        due.is("gate(0, W)", g.gate(0, W), 1);
        isTable("H T X S W", g, 0, 1, 0, 0, 1, 0, 0, 0, 0, 1, 0, 0, -1, 0, 0, 0, 0, 1);
        due.is("gate(0, Z)", g.gate(0, Z), 1);
        isTable("H T X S W Z", g, 0, 1, 0, 0, 1, 0, 0, 0, 0, -1, 0, 0, -1, 0, 0, 0, 0, -1);
        due.is("gate(0, U)", g.gate(0, U), 1);
        isTable("H T X S W Z U", g, 0, 1, 0, 0, 1, 0, 0, 0, -1, 0, 0, 0, -1, 0, 0, 0, -1, 0);
        due.is("gate(1, H)", g.gate(1, H), 1);
        due.is("H H", g.gate(1, H), 0);
        isUnit("H H", g, 1);
        isUnit("register 2 stays", g, 2);
        for (int bad : Bench.NO_REGISTERS) {
            due.is("gate r", g.gate(bad, H), RootGates.BAD);
        }
        for (int bad : Bench.NO_GATES) {
            due.is("gate gate", g.gate(1, bad), RootGates.BAD);
        }
        isUnit("after BAD", g, 1);
    }

    private static void ahead() {
        RootGates g = new RootGates();
        due.is("ahead(0, H)", g.ahead(0, H), 1);
        due.is("ahead(0, T)", g.ahead(0, T), 1);
        isTable("T H", g, 0, 1, 1, 0, 0, 0, 1, 0, 0, 0, 0, 1, 0, 0, 0, -1, 0, 0);
        due.is("ahead(0, X)", g.ahead(0, X), 1);
        isTable("X T H", g, 0, 1, 0, 1, 0, 0, 0, -1, 0, 0, 1, 0, 0, 0, 1, 0, 0, 0);
        due.is("ahead(0, S)", g.ahead(0, S), 1);
        isTable("S X T H", g, 0, 1, 0, 1, 0, 0, 0, -1, 0, 0, 0, 0, 1, 0, 0, 0, 1, 0);
        due.is("ahead(0, U)", g.ahead(0, U), 1);
        isTable("U S X T H", g, 0, 1, 0, 1, 0, 0, 0, -1, 0, 0, 0, 1, 0, 0, 0, 1, 0, 0);
        due.is("ahead(0, Z)", g.ahead(0, Z), 1);
        isTable("Z U S X T H", g, 0, 1, 0, 1, 0, 0, 0, -1, 0, 0, 0, -1, 0, 0, 0, -1, 0, 0);
        due.is("ahead(0, W)", g.ahead(0, W), 1);
        isTable("W Z U S X T H", g, 0, 1, 0, 0, 1, 0, 0, 0, -1, 0, 0, 0, -1, 0, 0, 0, -1, 0);
        for (int bad : Bench.NO_REGISTERS) {
            due.is("ahead r", g.ahead(bad, H), RootGates.BAD);
        }
        for (int bad : Bench.NO_GATES) {
            due.is("ahead gate", g.ahead(1, bad), RootGates.BAD);
        }
        isUnit("after BAD", g, 1);
    }

    private static void times() {
        RootGates g = new RootGates();
        g.gate(0, H);
        g.gate(1, T);
        due.is("times(2, 0, 1)", g.times(2, 0, 1), 1);
        isTable("H times T", g, 2, 1, 1, 0, 0, 0, 0, 1, 0, 0, 1, 0, 0, 0, 0, -1, 0, 0);
        due.is("times(3, 1, 0)", g.times(3, 1, 0), 1);
        isTable("T times H", g, 3, 1, 1, 0, 0, 0, 1, 0, 0, 0, 0, 1, 0, 0, 0, -1, 0, 0);
        due.is("times(2, 2, 3)", g.times(2, 2, 3), 1);
        // 1 + ww over 2 is w over R, 1 - ww over 2 is -www over R
        isTable("H T T H", g, 2, 1, 0, 1, 0, 0, 0, 0, 0, -1, 0, 0, 0, -1, 0, 1, 0, 0);
        for (int bad : Bench.NO_REGISTERS) {
            due.is("times r", g.times(bad, 0, 0), RootGates.BAD);
            due.is("times s", g.times(0, bad, 0), RootGates.BAD);
            due.is("times t", g.times(0, 0, bad), RootGates.BAD);
        }
        due.is("times(0, 0, 0)", g.times(0, 0, 0), 0);
        isUnit("H H", g, 0);
    }

    private static void turn() {
        RootGates g = new RootGates();
        g.gate(0, H);
        g.gate(0, T);
        due.is("turn(0)", g.turn(0), 1);
        isTable("H T turned", g, 0, 1, 1, 0, 0, 0, 1, 0, 0, 0, 0, 0, 0, -1, 0, 0, 0, 1);
        due.is("turn(0)", g.turn(0), 1);
        isTable("twice", g, 0, 1, 1, 0, 0, 0, 0, 1, 0, 0, 1, 0, 0, 0, 0, -1, 0, 0);
        for (int bad : Bench.NO_REGISTERS) {
            due.is("turn", g.turn(bad), RootGates.BAD);
        }
    }

    private static void part() {
        RootGates g = new RootGates();
        g.gate(2, W);
        due.is("part", g.part(2, 0, 0, 1), 1);
        due.is("part", g.part(2, 1, 1, 1), 1);
        due.is("part", g.part(2, 0, 1, 1), 0);
        for (int bad : Bench.NO_REGISTERS) {
            due.is("part r", g.part(bad, 0, 0, 0), RootGates.VOID);
            due.is("part i", g.part(0, 0, 0, bad), RootGates.VOID);
        }
        for (int bad : new int[] {-1, 2, Integer.MIN_VALUE, Integer.MAX_VALUE}) {
            due.is("part row", g.part(0, bad, 0, 0), RootGates.VOID);
            due.is("part column", g.part(0, 0, bad, 0), RootGates.VOID);
        }
    }

    private static void phase() {
        RootGates g = new RootGates();
        g.gate(0, H);
        g.gate(1, H);
        for (int j = 0; j < 8; j++) {
            due.is("phase(0, 1)", g.phase(0, 1), j);
            due.is("phase(1, 0)", g.phase(1, 0), (8 - j) % 8);
            due.is("phase(0, 0)", g.phase(0, 0), 0);
            g.gate(0, W);
        }
        due.is("phase by none", g.phase(0, 2), RootGates.NOT);
        g.gate(2, T);
        due.is("phase of T by 1", g.phase(2, 3), RootGates.NOT);
        for (int bad : Bench.NO_REGISTERS) {
            due.is("phase r", g.phase(bad, 0), RootGates.BAD);
            due.is("phase s", g.phase(0, bad), RootGates.BAD);
        }
    }

    /** A call on one register has nothing of another one in it. */
    private static void eachByItself() {
        RootGates g = new RootGates();
        g.gate(0, H);
        g.gate(1, T);
        g.ahead(2, S);
        g.ahead(0, T);
        isTable("T H", g, 0, 1, 1, 0, 0, 0, 1, 0, 0, 0, 0, 1, 0, 0, 0, -1, 0, 0);
        g.gate(1, X);
        isTable("T X", g, 1, 0, 0, 0, 0, 0, 1, 0, 0, 0, 0, 1, 0, 0, 0, 0, 0, 0);
        isTable("S", g, 2, 0, 1, 0, 0, 0, 0, 0, 0, 0, 0, 0, 0, 0, 0, 0, 1, 0);
        isUnit("no call on it", g, 3);
    }

    /** E of 40 is held, E above it is refused and leaves all as it was. */
    private static void highest() {
        RootGates g = new RootGates();
        int e = 0;
        for (int i = 0; i < 200 && e >= 0; i++) {
            e = g.gate(0, i % 2 == 0 ? H : T);
        }
        due.is("gate at the top", e, RootGates.STATE);
        due.is("E stays", g.e(0), 40);
        long part = g.part(0, 0, 0, 0);
        due.is("gate at the top again", g.gate(0, H), RootGates.STATE);
        due.is("part stays", g.part(0, 0, 0, 0), part);
        due.is("T does not raise E", g.gate(0, U), 40);
        due.is("H may lower it", g.gate(0, H), 40);
        due.is("a square", g.times(1, 0, 0), RootGates.STATE);
        isUnit("register 1 stays", g, 1);
        due.is("turn keeps E", g.turn(0), 40);
        g.times(2, 0, 1);
        g.turn(2);
        due.is("on the way above 40, then 1", g.times(1, 0, 2), 0);
        isUnit("a table by its turned one", g, 1);
        e = 0;
        for (int i = 0; i < 200 && e >= 0; i++) {
            e = g.ahead(3, i % 2 == 0 ? H : T);
        }
        due.is("ahead at the top", e, RootGates.STATE);
        due.is("E stays", g.e(3), 40);
    }
}
