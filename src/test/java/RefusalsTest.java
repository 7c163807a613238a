/** Each refusal of each promise: its answer, and that nothing changes but where it is told. */
public final class RefusalsTest {
    private static final int H = 0, T = 1, S = 2, X = 3, Z = 4, W = 5, U = 6;
    private static final int LEAST = Integer.MIN_VALUE, MOST = Integer.MAX_VALUE;
    private static final Due due = new Due();

    interface Call {
        long on(RootGates g);
    }

    public static void main(String[] args) {
        answers();
        registers();
        channels();
        cliffords();
        words();
        values();
        changesAndImages();
        texts();
        due.end();
    }

    private static void answers() {
        due.about(1, "BAD (-1): no such one, a number out of its range.");
        due.is("BAD", RootGates.BAD, -1);
        due.about(1, "NOT (-2): there is none.");
        due.is("NOT", RootGates.NOT, -2);
        due.about(1, "FULL (-3): more than 60 GATES");
        due.is("FULL", RootGates.FULL, -3);
        due.about(1, "STATE (-5): E would be above 40; or as told.");
        due.is("STATE", RootGates.STATE, -5);
        due.about(1, "VOID: the least long.");
        due.is("VOID", RootGates.VOID, Long.MIN_VALUE);
    }

    /** Something stands everywhere: E 40, a word of 60, another of none, prices, bytes, changes, an image. */
    private static void fill(RootGates g) {
        Bench.push(g, 0, "X");
        g.gate(0, Z);
        g.price(W, 4);
        g.image();
        Bench.makeHighest(g, 0, 1);
        Bench.make(g, 1, "HTH");
        g.gate(2, T);
        g.gate(3, W);
        Bench.push(g, 0, "TS");
        Bench.write(g, 1, "((HT)3)9(XZ)3");
        g.price(T, 9);
        g.price(U, 0);
        Bench.feed(g, "HTS");
    }

    private static void isRefused(int promise, String sentence, long answer, Call call) {
        isRefusedBehind(promise, sentence, answer, call, RefusalsTest::fill);
    }

    private static void isRefusedBehind(int promise, String sentence, long answer, Call call, Seen.Calls calls) {
        RootGates g = new RootGates();
        calls.on(g);
        due.about(promise, sentence);
        due.is("the call", call.on(g), answer);
        due.is("the call again", call.on(g), answer);
        due.about(promise, "nothing changes but where it is told");
        due.isText("what is seen", Seen.of(other -> {
            calls.on(other);
            call.on(other);
        }), Seen.of(calls));
    }

    private static void isBad(int promise, String sentence, Call call) {
        isRefused(promise, sentence, RootGates.BAD, call);
    }

    private static void registers() {
        for (int bad : new int[] {-1, 4, LEAST, MOST}) {
            isBad(2, "A REGISTER becomes 1, 0 and 0, 1: its E as it was. BAD.", g -> g.one(bad));
            isBad(3, "A REGISTER becomes it times a GATE: its E. BAD; STATE.", g -> g.gate(bad, H));
            isBad(4, "A REGISTER becomes a GATE times it: its E. BAD; STATE.", g -> g.ahead(bad, H));
            isBad(5, "REGISTER r becomes the product of s and t: its E. BAD; STATE.", g -> g.times(bad, 1, 1));
            isBad(5, "REGISTER r becomes the product of s and t: its E. BAD; STATE.", g -> g.times(1, bad, 1));
            isBad(5, "REGISTER r becomes the product of s and t: its E. BAD; STATE.", g -> g.times(1, 1, bad));
            isBad(6, "A REGISTER is TURNED: its E. BAD.", g -> g.turn(bad));
            isBad(8, "E of a REGISTER. BAD.", g -> g.e(bad));
            isBad(9, "PHASE of a REGISTER by another one. BAD; NOT: by none.", g -> g.phase(bad, 1));
            isBad(9, "PHASE of a REGISTER by another one. BAD; NOT: by none.", g -> g.phase(1, bad));
        }
        for (int bad : new int[] {-1, 7, LEAST, MOST}) {
            isBad(3, "A REGISTER becomes it times a GATE: its E. BAD; STATE.", g -> g.gate(1, bad));
            isBad(4, "A REGISTER becomes a GATE times it: its E. BAD; STATE.", g -> g.ahead(1, bad));
        }
        isRefused(3, "STATE (-5): E would be above 40; or as told.", RootGates.STATE, g -> g.gate(0, H));
        isRefused(5, "STATE (-5): E would be above 40; or as told.", RootGates.STATE, g -> g.times(0, 0, 0));
        isRefused(5, "STATE (-5): E would be above 40; or as told.", RootGates.STATE, g -> g.times(2, 0, 0));
        isRefused(9, "PHASE of a REGISTER by another one. BAD; NOT: by none.", RootGates.NOT, g -> g.phase(0, 1));
        isRefused(9, "PHASE of a REGISTER by another one. BAD; NOT: by none.", RootGates.NOT, g -> g.phase(2, 3));
        isRefusedBehind(4, "STATE (-5): E would be above 40; or as told.", RootGates.STATE, g -> g.ahead(0, H), g -> {
            fill(g);
            g.turn(0);
        });
    }

    private static void partIsVoid(Call call) {
        isRefused(7, "Of a REGISTER's NUMBER in a row and column a, b, c, d (i 0 .. 3). VOID: BAD.", RootGates.VOID,
            call);
    }

    private static void channelIsVoid(Call call) {
        isRefused(10, "CHANNEL of a REGISTER at i, j: x (what 0), y (1). VOID: BAD.", RootGates.VOID, call);
    }

    private static void channels() {
        for (int bad : new int[] {-1, 4, LEAST, MOST}) {
            partIsVoid(g -> g.part(bad, 0, 0, 0));
            partIsVoid(g -> g.part(0, 0, 0, bad));
            channelIsVoid(g -> g.channel(bad, 0, 0, 0));
            isBad(11, "T-COUNT of a REGISTER. BAD.", g -> g.count(bad));
        }
        for (int bad : new int[] {-1, 3, LEAST, MOST}) {
            channelIsVoid(g -> g.channel(0, bad, 0, 0));
            channelIsVoid(g -> g.channel(0, 0, bad, 0));
        }
        for (int bad : new int[] {-1, 2, LEAST, MOST}) {
            partIsVoid(g -> g.part(0, bad, 0, 0));
            partIsVoid(g -> g.part(0, 0, bad, 0));
            channelIsVoid(g -> g.channel(0, 0, 0, bad));
        }
    }

    private static void leadsIsBad(int k, int gate) {
        isBad(14, "To which CLIFFORD one comes from CLIFFORD k by H, S, X, Z, W (GATES 0, 2, 3, 4, 5) behind it. BAD.",
            g -> g.leads(k, gate));
    }

    private static void cliffords() {
        for (int bad : new int[] {-1, 4, LEAST, MOST}) {
            isBad(12, "Which CLIFFORD a REGISTER is. BAD; NOT.", g -> g.clifford(bad));
            isBad(13, "A REGISTER becomes CLIFFORD k (0 .. 191): its E. BAD.", g -> g.take(bad, 1));
        }
        for (int bad : new int[] {-1, 192, LEAST, MOST}) {
            isBad(13, "A REGISTER becomes CLIFFORD k (0 .. 191): its E. BAD.", g -> g.take(1, bad));
            leadsIsBad(bad, H);
            isBad(16, "BAD: k, i below -2; NOT: it has not so many.", g -> g.cheapest(bad, 0));
            isBad(16, "of several the first as the call's words name them", g -> g.cheapest(bad, 1000));
        }
        for (int bad : new int[] {-1, T, U, 7, LEAST, MOST}) {
            leadsIsBad(5, bad);
        }
        for (int bad : new int[] {-1, 7, LEAST, MOST}) {
            isBad(15, "PRICE of a GATE becomes v: what it was. BAD.", g -> g.price(bad, 2));
        }
        for (int bad : new int[] {-1, 10, LEAST, MOST}) {
            isBad(15, "PRICE of a GATE becomes v: what it was. BAD.", g -> g.price(1, bad));
        }
        isBad(16, "BAD: k, i below -2; NOT: it has not so many.", g -> g.cheapest(5, -3));
        isBad(16, "BAD: k, i below -2; NOT: it has not so many.", g -> g.cheapest(5, LEAST));
        isRefused(12, "Which CLIFFORD a REGISTER is. BAD; NOT.", RootGates.NOT, g -> g.clifford(2));
        isRefused(16, "NOT: it has not so many.", RootGates.NOT, g -> g.cheapest(0, 0));
        isRefused(16, "NOT: it has not so many.", RootGates.NOT, g -> g.cheapest(191, MOST));
    }

    private static void words() {
        for (int bad : new int[] {-1, 3, LEAST, MOST}) {
            isBad(17, "A GATE comes behind a WORD's: how many it has. BAD; FULL.", g -> g.push(bad, H));
            isBad(18, "The last GATE of a WORD goes: which. BAD; NOT: it has none.", g -> g.pull(bad));
            isBad(19, "BAD: word, i below -2; NOT: it has not so many.", g -> g.word(bad, 0));
            isBad(21, "SHORTER is made a WORD: how many GATES it has. BAD; FULL (it can't be).", g -> g.shorter(bad));
            isBad(22, "A WORD becomes the NORMAL form of a REGISTER: how many GATES it has. BAD; FULL.",
                g -> g.normal(bad, 1));
            isBad(23, "FITS (bits). BAD: word, i (no such place), r.", g -> g.fits(bad, 0, 0));
            isBad(24, "PARTS of two WORDS. BAD.", g -> g.parts(bad, 0));
            isBad(24, "PARTS of two WORDS. BAD.", g -> g.parts(0, bad));
        }
        for (int bad : new int[] {-1, 7, LEAST, MOST}) {
            isBad(17, "A GATE comes behind a WORD's: how many it has. BAD; FULL.", g -> g.push(0, bad));
            isBad(17, "of several the first as the call's words name them", g -> g.push(1, bad));
        }
        for (int bad : new int[] {-1, 3, 60, LEAST, MOST}) {
            isBad(23, "FITS (bits). BAD: word, i (no such place), r.", g -> g.fits(0, bad, 0));
        }
        isBad(19, "BAD: word, i below -2; NOT: it has not so many.", g -> g.word(0, -3));
        isBad(23, "FITS (bits). BAD: word, i (no such place), r.", g -> g.fits(2, 0, 0));
        isRefused(17, "FULL (-3): more than 60 GATES", RootGates.FULL, g -> g.push(1, H));
        isRefused(18, "The last GATE of a WORD goes: which. BAD; NOT: it has none.", RootGates.NOT, g -> g.pull(2));
        isRefused(19, "NOT: it has not so many.", RootGates.NOT, g -> g.word(0, 3));
        isRefused(19, "NOT: it has not so many.", RootGates.NOT, g -> g.word(1, 60));
        isRefused(19, "NOT: it has not so many.", RootGates.NOT, g -> g.word(2, 0));
        isRefused(22, "FULL (-3): more than 60 GATES", RootGates.FULL, g -> g.normal(0, 0));
        isRefused(24, "-2: nowhere, up to the end of both", RootGates.NOT, g -> g.parts(1, 1));
    }

    private static void values() {
        for (int bad : new int[] {-1, 4, LEAST, MOST}) {
            isBad(20, "A REGISTER becomes VALUE of a WORD: its E. BAD; STATE.", g -> g.value(bad, 0));
            isBad(22, "A WORD becomes the NORMAL form of a REGISTER: how many GATES it has. BAD; FULL.",
                g -> g.normal(0, bad));
            isBad(23, "FITS (bits). BAD: word, i (no such place), r.", g -> g.fits(0, 0, bad));
        }
        for (int bad : new int[] {-1, 3, LEAST, MOST}) {
            isBad(20, "A REGISTER becomes VALUE of a WORD: its E. BAD; STATE.", g -> g.value(0, bad));
        }
    }

    private static void changesAndImages() {
        for (int bad : new int[] {-1, 10, LEAST, MOST}) {
            isBad(31, "BAD (-1): no such one, a number out of its range.", g -> g.told(bad));
        }
        isRefusedBehind(25, "STATE: there is none.", RootGates.STATE, g -> g.undo(), g -> {
            fill(g);
            g.restore();
        });
        isRefusedBehind(30, "STATE: there is none.", RootGates.STATE, g -> g.restore(), g -> {
            Bench.make(g, 0, "HT");
            Bench.push(g, 1, "XZ");
            g.price(S, 3);
            Bench.feed(g, "HT");
        });
    }

    private static void texts() {
        for (int bad : new int[] {31, 127, -1, LEAST, MOST}) {
            isBad(26, "A byte comes behind THE TAPE's: how many it has. BAD; FULL: it has 80.", g -> g.feed(bad));
        }
        for (int bad : new int[] {-1, 3, LEAST, MOST}) {
            isBad(28, "BAD: word (THE TAPE stays)", g -> g.write(bad));
        }
        isRefusedBehind(26, "FULL: it has 80.", RootGates.FULL, g -> g.feed('H'), g -> {
            fill(g);
            Bench.feed(g, "T".repeat(40) + "(X)0".repeat(9) + "H");
        });
        changesJustTheTape("(", -104);
        changesJustTheTape("?", -103);
        changesJustTheTape("~~~W", RootGates.FULL);
        changesJustTheTape("H".repeat(58), RootGates.FULL);
    }

    /** A text behind the one that stands there is read in vain: the tape is then empty, all else as it was. */
    private static void changesJustTheTape(String text, int answer) {
        RootGates g = new RootGates();
        fill(g);
        due.about(28, "-100 less the FAULT; FULL.");
        due.is("write of HTS" + text, Bench.write(g, 0, text), answer);
        due.about(28, "THE TAPE is empty behind each call that reads it, by a FAULT and by FULL, too.");
        due.isText("what is seen", Seen.of(other -> {
            fill(other);
            Bench.write(other, 0, text);
        }), Seen.of(other -> {
            fill(other);
            other.wipe();
        }));
    }
}
