/** Promises 10 and 11: channel, count. */
public final class ChannelsTest {
    private static final Due due = new Due();

    public static void main(String[] args) {
        ordinary();
        counts();
        phases();
        highest();
        wrong();
        due.end();
    }

    /** Nine pairs x, y row by row, and F. */
    private static void isChannel(String gates, int f, long... xy) {
        RootGates g = new RootGates();
        Bench.make(g, 2, gates);
        due.is(gates + ": count", g.count(2), f);
        for (int at = 0; at < 18; at++) {
            int i = at / 6;
            int j = at / 2 % 3;
            due.is("another register", g.channel(3, 2, 2, 0), 1);
            due.is(gates + ": channel " + i + " " + j + " " + at % 2, g.channel(2, i, j, at % 2), xy[at]);
        }
    }

    private static void ordinary() {
        isChannel("", 0, 1, 0, 0, 0, 0, 0, 0, 0, 1, 0, 0, 0, 0, 0, 0, 0, 1, 0);
        isChannel("H", 0, 0, 0, 0, 0, 1, 0, 0, 0, -1, 0, 0, 0, 1, 0, 0, 0, 0, 0);
        isChannel("S", 0, 0, 0, -1, 0, 0, 0, 1, 0, 0, 0, 0, 0, 0, 0, 0, 0, 1, 0);
        isChannel("X", 0, 1, 0, 0, 0, 0, 0, 0, 0, -1, 0, 0, 0, 0, 0, 0, 0, -1, 0);
        isChannel("Z", 0, -1, 0, 0, 0, 0, 0, 0, 0, -1, 0, 0, 0, 0, 0, 0, 0, 1, 0);
        // over R: the 1 of P 2 is then R over R, its y 1
        isChannel("T", 1, 1, 0, -1, 0, 0, 0, 1, 0, 1, 0, 0, 0, 0, 0, 0, 0, 0, 1);
        isChannel("U", 1, 1, 0, 1, 0, 0, 0, -1, 0, 1, 0, 0, 0, 0, 0, 0, 0, 0, 1);
        // the channels of T, H, T multiplied by hand: 1, 1, R; -1, -1, R; R, -R, 0; all over R R
        isChannel("THT", 2, 1, 0, 1, 0, 0, 1, -1, 0, -1, 0, 0, 1, 0, 1, 0, -1, 0, 0);
    }

    private static void counts() {
        RootGates g = new RootGates();
        for (int i = 1; i < 80; i++) {
            g.gate(0, 0);
            g.gate(0, 1);
            due.is("count of H T, " + i + " times", g.count(0), i);
        }
        isCount("TT", 0);
        isCount("TU", 0);
        isCount("TXT", 0);
        isCount("THTHTUHUHU", 0);
        isCount("THTSHTHHTT", 3);
        isCount("TXTHTZT", 0);
        isCount("SHTHSHT", 2);
    }

    private static void isCount(String gates, int count) {
        RootGates g = new RootGates();
        Bench.make(g, 1, gates);
        due.is("count of " + gates, g.count(1), count);
    }

    private static void phases() {
        RootGates g = new RootGates();
        Bench.make(g, 0, "HTSHTHT");
        Bench.make(g, 1, "HTWSHTWWHT");
        due.is("count but for a phase", g.count(0), g.count(1));
        for (int at = 0; at < 18; at++) {
            due.is("channel but for a phase", g.channel(0, at / 6, at / 2 % 3, at % 2),
                g.channel(1, at / 6, at / 2 % 3, at % 2));
        }
    }

    /** With E 40 all is exact still: by definition, of numbers without a bound. */
    private static void highest() {
        RootGates g = new RootGates();
        Model model = new Model();
        for (int i = 0; g.e(3) < 40; i++) {
            int gate = i % 2 == 0 ? 0 : 1;
            g.gate(3, gate);
            model.call("gate", 3, gate);
        }
        due.is("count", g.count(3), model.call("count", 3));
        for (int at = 0; at < 18; at++) {
            due.is("channel of E 40", g.channel(3, at / 6, at / 2 % 3, at % 2),
                model.call("channel", 3, at / 6, at / 2 % 3, at % 2));
        }
    }

    private static void wrong() {
        RootGates g = new RootGates();
        for (int bad : Bench.NO_REGISTERS) {
            due.is("channel r", g.channel(bad, 0, 0, 0), RootGates.VOID);
            due.is("count", g.count(bad), RootGates.BAD);
        }
        for (int bad : Bench.NO_WORDS) {
            due.is("channel i", g.channel(0, bad, 0, 0), RootGates.VOID);
            due.is("channel j", g.channel(0, 0, bad, 0), RootGates.VOID);
        }
        for (int bad : new int[] {-1, 2, Integer.MIN_VALUE, Integer.MAX_VALUE}) {
            due.is("channel what", g.channel(0, 0, 0, bad), RootGates.VOID);
        }
    }
}
