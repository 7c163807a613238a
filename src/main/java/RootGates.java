/**
 * A bench for turns with roots of two, exactly. The document that this class keeps is ../shared/DOC.md; words in
 * capitals there (GATE, TABLE, WORD, CLIFFORD ..) mean here what they mean there.
 *
 * No call makes an object: all rows are made with the bench, because all calls of a run share one room.
 */
public final class RootGates {
    public static final int BAD = -1, NOT = -2, FULL = -3, STATE = -5;
    public static final long VOID = Long.MIN_VALUE;

    private static final int H = 0, T = 1, S = 2, X = 3, Z = 4, W = 5, U = 6;
    private static final int GATES = 7;
    private static final int REGISTERS = 4;
    private static final int WORDS = 3;
    private static final int CLIFFORDS = 192;
    private static final int PAULIS = 3;
    private static final int EIGHTHS = 8;
    private static final int MOST_E = 40;
    private static final int MOST_GATES = 60;
    private static final int MOST_PRICE = 9;
    private static final int MOST_CHANGES = 8;
    private static final int MOST_BYTES = 80;
    private static final int MOST_OPEN = 4;
    private static final int FIRST_BYTE = 32, LAST_BYTE = 126;
    private static final int FIRST_FAULT = -100;

    private final Bench bench = new Bench();
    private final Bench picture = new Bench();
    private boolean pictured = false;
    private final History history = new History();
    private final Tape tape = new Tape();
    private final Reader reader = new Reader();
    private final Cliffords cliffords = new Cliffords();
    private final Channel shape = new Channel();
    private final Normal former = new Normal();
    private final Row draft = new Row();
    private final Table work = new Table();
    private final Table begun = new Table();
    private final Table ended = new Table();
    private final Table trial = new Table();

    public RootGates() {
    }

    // ---- registers ----

    public int one(int r) {
        if (!isRegister(r)) {
            return BAD;
        }
        int before = bench.registers[r].e;
        bench.registers[r].makeUnit();
        return before;
    }

    public int gate(int r, int gate) {
        if (!isRegister(r) || !isGate(gate)) {
            return BAD;
        }
        work.makeCopy(bench.registers[r]);
        work.applyBehind(gate);
        return settleRegister(r);
    }

    public int ahead(int r, int gate) {
        if (!isRegister(r) || !isGate(gate)) {
            return BAD;
        }
        work.makeCopy(bench.registers[r]);
        work.applyAhead(gate);
        return settleRegister(r);
    }

    public int times(int r, int s, int t) {
        if (!isRegister(r) || !isRegister(s) || !isRegister(t)) {
            return BAD;
        }
        work.makeProduct(bench.registers[s], bench.registers[t]);
        work.lower();
        return settleRegister(r);
    }

    public int turn(int r) {
        if (!isRegister(r)) {
            return BAD;
        }
        work.makeTurned(bench.registers[r]);
        return settleRegister(r);
    }

    public long part(int r, int row, int column, int i) {
        if (!isRegister(r) || !isBelow(row, 2) || !isBelow(column, 2) || !isBelow(i, Table.PARTS)) {
            return VOID;
        }
        return bench.registers[r].parts[Table.placeOf(row, column) + i];
    }

    public int e(int r) {
        return isRegister(r) ? bench.registers[r].e : BAD;
    }

    public int phase(int r, int s) {
        if (!isRegister(r) || !isRegister(s)) {
            return BAD;
        }
        work.makeCopy(bench.registers[s]);
        for (int j = 0; j < EIGHTHS; j++) {
            if (work.isSame(bench.registers[r])) {
                return j;
            }
            work.applyAhead(W);
        }
        return NOT;
    }

    // ---- channels and Cliffords ----

    public long channel(int r, int i, int j, int what) {
        if (!isRegister(r) || !isBelow(i, PAULIS) || !isBelow(j, PAULIS) || !isBelow(what, 2)) {
            return VOID;
        }
        shape.makeOf(bench.registers[r]);
        return what == 0 ? shape.x[i * PAULIS + j] : shape.y[i * PAULIS + j];
    }

    public int count(int r) {
        if (!isRegister(r)) {
            return BAD;
        }
        shape.makeOf(bench.registers[r]);
        return shape.f;
    }

    public int clifford(int r) {
        if (!isRegister(r)) {
            return BAD;
        }
        cliffords.prepare();
        return cliffords.find(bench.registers[r]);
    }

    public int take(int r, int k) {
        if (!isRegister(r) || !isBelow(k, CLIFFORDS)) {
            return BAD;
        }
        cliffords.prepare();
        cliffords.load(k, work);
        return settleRegister(r);
    }

    public int leads(int k, int gate) {
        if (!isBelow(k, CLIFFORDS) || !isGate(gate) || gate == T || gate == U) {
            return BAD;
        }
        cliffords.prepare();
        return cliffords.next(k, gate);
    }

    public int price(int gate, int v) {
        if (!isGate(gate) || v < 0 || v > MOST_PRICE) {
            return BAD;
        }
        int before = bench.prices[gate];
        bench.prices[gate] = v;
        return before;
    }

    public int cheapest(int k, int i) {
        if (!isBelow(k, CLIFFORDS) || i < -2) {
            return BAD;
        }
        cliffords.rankBy(bench.prices);
        if (i == -2) {
            return cliffords.costOf(k);
        }
        return i == -1 ? cliffords.lengthOf(k) : cliffords.gateOf(k, i);
    }

    // ---- words ----

    public int push(int word, int gate) {
        if (!isWord(word) || !isGate(gate)) {
            return BAD;
        }
        draft.makeCopy(bench.words[word]);
        return draft.add(gate) ? settleWord(word) : FULL;
    }

    public int pull(int word) {
        if (!isWord(word)) {
            return BAD;
        }
        draft.makeCopy(bench.words[word]);
        int last = draft.at(draft.size - 1);
        if (last < 0) {
            return NOT;
        }
        draft.cut(draft.size - 1, 1);
        settleWord(word);
        return last;
    }

    public int word(int word, int i) {
        if (!isWord(word) || i < -2) {
            return BAD;
        }
        if (i == -2) {
            return bench.words[word].costBy(bench.prices);
        }
        return i == -1 ? bench.words[word].size : bench.words[word].at(i);
    }

    public int value(int r, int word) {
        if (!isRegister(r) || !isWord(word)) {
            return BAD;
        }
        work.makeUnit();
        work.applyRow(bench.words[word], 0, MOST_GATES);
        return settleRegister(r);
    }

    public int shorter(int word) {
        if (!isWord(word)) {
            return BAD;
        }
        draft.makeCopy(bench.words[word]);
        draft.shorten();
        return settleWord(word);
    }

    public int normal(int word, int r) {
        if (!isWord(word) || !isRegister(r)) {
            return BAD;
        }
        cliffords.rankBy(bench.prices);
        return former.form(bench.registers[r], cliffords, draft) ? settleWord(word) : FULL;
    }

    public int fits(int word, int i, int r) {
        if (!isWord(word) || !isBelow(i, bench.words[word].size) || !isRegister(r)) {
            return BAD;
        }
        Row row = bench.words[word];
        begun.makeUnit();
        begun.applyRow(row, 0, i);
        ended.makeUnit();
        ended.applyRow(row, i + 1, row.size);
        int bits = 0;
        for (int gate = 0; gate < GATES; gate++) {
            trial.makeCopy(begun);
            trial.applyBehind(gate);
            work.makeProduct(trial, ended);
            work.lower();
            if (work.isSame(bench.registers[r])) {
                bits |= 1 << gate;
            }
        }
        return bits;
    }

    public int parts(int one, int other) {
        if (!isWord(one) || !isWord(other)) {
            return BAD;
        }
        begun.makeUnit();
        trial.makeUnit();
        int end = Math.max(bench.words[one].size, bench.words[other].size);
        for (int i = 0; i < end; i++) {
            begun.applyRow(bench.words[one], i, i + 1);
            trial.applyRow(bench.words[other], i, i + 1);
            if (!begun.isSame(trial)) {
                return i;
            }
        }
        return NOT;
    }

    public int undo() {
        if (history.size == 0) {
            return STATE;
        }
        history.giveBack(bench.words);
        return history.size;
    }

    // ---- texts, the image, what is told ----

    public int feed(int letter) {
        if (letter < FIRST_BYTE || letter > LAST_BYTE) {
            return BAD;
        }
        return tape.add(letter) ? tape.size : FULL;
    }

    public int wipe() {
        int before = tape.size;
        tape.size = 0;
        return before;
    }

    public int write(int word) {
        if (!isWord(word)) {
            return BAD;
        }
        int fault = tape.findFault();
        boolean isHeld = fault < 0 && reader.read(tape, draft);
        tape.size = 0;
        if (fault >= 0) {
            return FIRST_FAULT - fault;
        }
        return isHeld ? settleWord(word) : FULL;
    }

    public int image() {
        picture.makeCopy(bench);
        pictured = true;
        return bench.countGates();
    }

    public int restore() {
        if (!pictured) {
            return STATE;
        }
        bench.makeCopy(picture);
        history.size = 0;
        return bench.countGates();
    }

    public int told(int what) {
        switch (what) {
            case 0:
                return history.size;
            case 1:
                return tape.size;
            case 2:
                return bench.sumPrices();
            default:
                return isGate(what - 3) ? bench.countGate(what - 3) : BAD;
        }
    }

    // ---- what several calls share ----

    private static boolean isBelow(int i, int bound) {
        return i >= 0 && i < bound;
    }

    private static boolean isRegister(int r) {
        return isBelow(r, REGISTERS);
    }

    private static boolean isGate(int gate) {
        return isBelow(gate, GATES);
    }

    private static boolean isWord(int word) {
        return isBelow(word, WORDS);
    }

    /** The register takes what the call has worked out, unless its E is too high. */
    private int settleRegister(int r) {
        if (work.e > MOST_E) {
            return STATE;
        }
        bench.registers[r].makeCopy(work);
        return work.e;
    }

    /** The word takes the draft; a word that stays what it was is no change. */
    private int settleWord(int word) {
        Row row = bench.words[word];
        if (!row.isSame(draft)) {
            history.keep(word, row);
            row.makeCopy(draft);
        }
        return row.size;
    }

    private static int gateOfLetter(int letter) {
        switch (letter) {
            case 'H':
                return H;
            case 'T':
                return T;
            case 'S':
                return S;
            case 'X':
                return X;
            case 'Z':
                return Z;
            case 'W':
                return W;
            case 'U':
                return U;
            default:
                return NOT;
        }
    }

    /**
     * Four numbers over R to the e. Longs are wide enough: as gates keep lengths, no part of a number is above 2 to the
     * half of E; and ahead of lowest form E is 82 at most (a table with E 41 times itself turned, for its channel).
     */
    private static final class Table {
        static final int PARTS = 4;
        static final int ALL_PARTS = 16;
        static final int MOST_LOWERINGS = 1000;

        final long[] parts = new long[ALL_PARTS];
        int e = 0;

        Table() {
            makeUnit();
        }

        static int placeOf(int row, int column) {
            return (row * 2 + column) * PARTS;
        }

        void makeUnit() {
            clearParts();
            parts[placeOf(0, 0)] = 1;
            parts[placeOf(1, 1)] = 1;
            e = 0;
        }

        void makeCopy(Table from) {
            System.arraycopy(from.parts, 0, parts, 0, ALL_PARTS);
            e = from.e;
        }

        boolean isSame(Table that) {
            if (e != that.e) {
                return false;
            }
            for (int i = 0; i < ALL_PARTS; i++) {
                if (parts[i] != that.parts[i]) {
                    return false;
                }
            }
            return true;
        }

        /** Rows and columns changed, each number its conjugate; a multiple of R stays one, so lowest form stays. */
        void makeTurned(Table from) {
            for (int row = 0; row < 2; row++) {
                for (int column = 0; column < 2; column++) {
                    int to = placeOf(row, column);
                    int p = placeOf(column, row);
                    parts[to] = from.parts[p];
                    parts[to + 1] = -from.parts[p + 3];
                    parts[to + 2] = -from.parts[p + 2];
                    parts[to + 3] = -from.parts[p + 1];
                }
            }
            e = from.e;
        }

        /** The product of two others, not yet in lowest form: a channel wants one E for all that it compares. */
        void makeProduct(Table left, Table right) {
            clearParts();
            for (int row = 0; row < 2; row++) {
                for (int column = 0; column < 2; column++) {
                    int to = placeOf(row, column);
                    addProduct(to, left.parts, placeOf(row, 0), right.parts, placeOf(0, column));
                    addProduct(to, left.parts, placeOf(row, 1), right.parts, placeOf(1, column));
                }
            }
            e = left.e + right.e;
        }

        private void clearParts() {
            for (int i = 0; i < ALL_PARTS; i++) {
                parts[i] = 0;
            }
        }

        private void addProduct(int to, long[] left, int p, long[] right, int q) {
            long a = left[p];
            long b = left[p + 1];
            long c = left[p + 2];
            long d = left[p + 3];
            long k = right[q];
            long l = right[q + 1];
            long m = right[q + 2];
            long n = right[q + 3];
            parts[to] += a * k - b * n - c * m - d * l;
            parts[to + 1] += a * l + b * k - c * n - d * m;
            parts[to + 2] += a * m + b * l + c * k - d * n;
            parts[to + 3] += a * n + b * m + c * l + d * k;
        }

        /** This times the gates of a row from one place up to (without) another one. */
        void applyRow(Row row, int from, int to) {
            int end = Math.min(to, row.size);
            for (int i = Math.max(from, 0); i < end; i++) {
                applyBehind(row.at(i));
            }
        }

        /** This times a gate, which mixes the two numbers of each row; by all gates but H lowest form stays. */
        void applyBehind(int gate) {
            applyToPair(gate, placeOf(0, 0), placeOf(0, 1));
            applyToPair(gate, placeOf(1, 0), placeOf(1, 1));
            if (gate == H) {
                e++;
                lower();
            }
        }

        /** A gate times this: as every gate's table is its own mirror, the same is done to each column. */
        void applyAhead(int gate) {
            applyToPair(gate, placeOf(0, 0), placeOf(1, 0));
            applyToPair(gate, placeOf(0, 1), placeOf(1, 1));
            if (gate == H) {
                e++;
                lower();
            }
        }

        private void applyToPair(int gate, int p, int q) {
            switch (gate) {
                case H:
                    addAndSubtract(p, q);
                    break;
                case T:
                    rotate(q, 1);
                    break;
                case S:
                    rotate(q, 2);
                    break;
                case X:
                    exchange(p, q);
                    break;
                case Z:
                    rotate(q, 4);
                    break;
                case W:
                    rotate(p, 1);
                    rotate(q, 1);
                    break;
                case U:
                    rotate(q, EIGHTHS - 1);
                    break;
                default:
                    break;
            }
        }

        private void addAndSubtract(int p, int q) {
            for (int i = 0; i < PARTS; i++) {
                long first = parts[p + i];
                long second = parts[q + i];
                parts[p + i] = first + second;
                parts[q + i] = first - second;
            }
        }

        private void exchange(int p, int q) {
            for (int i = 0; i < PARTS; i++) {
                long first = parts[p + i];
                parts[p + i] = parts[q + i];
                parts[q + i] = first;
            }
        }

        /** A number times w, so many times. */
        private void rotate(int p, int eighths) {
            for (int i = 0; i < eighths; i++) {
                long last = parts[p + 3];
                parts[p + 3] = parts[p + 2];
                parts[p + 2] = parts[p + 1];
                parts[p + 1] = parts[p];
                parts[p] = -last;
            }
        }

        void lower() {
            for (int i = 0; i < MOST_LOWERINGS && e > 0 && isMultipleOfR(); i++) {
                for (int p = 0; p < ALL_PARTS; p += PARTS) {
                    divideByR(p);
                }
                e--;
            }
        }

        private boolean isMultipleOfR() {
            for (int p = 0; p < ALL_PARTS; p += PARTS) {
                boolean isOdd = ((parts[p] + parts[p + 2]) & 1) != 0 || ((parts[p + 1] + parts[p + 3]) & 1) != 0;
                if (isOdd) {
                    return false;
                }
            }
            return true;
        }

        /** Over R is times R over 2. */
        private void divideByR(int p) {
            long a = parts[p];
            long b = parts[p + 1];
            long c = parts[p + 2];
            long d = parts[p + 3];
            parts[p] = (b - d) / 2;
            parts[p + 1] = (a + c) / 2;
            parts[p + 2] = (b + d) / 2;
            parts[p + 3] = (c - a) / 2;
        }
    }

    /** Nine real numbers x + y R, all over R to the f. */
    private static final class Channel {
        static final int ALL = PAULIS * PAULIS;
        static final int MOST_LOWERINGS = 1000;

        final long[] x = new long[ALL];
        final long[] y = new long[ALL];
        int f = 0;
        private final Table turned = new Table();
        private final Table moved = new Table();
        private final Table seen = new Table();

        void makeOf(Table table) {
            turned.makeTurned(table);
            moved.makeCopy(table);
            moved.applyBehind(X);
            fillColumn(0);
            // P 1 is X, then Z, times ww
            moved.applyBehind(Z);
            moved.applyBehind(W);
            moved.applyBehind(W);
            fillColumn(1);
            moved.makeCopy(table);
            moved.applyBehind(Z);
            fillColumn(2);
            f = 2 * table.e + 2;
            lower();
        }

        /**
         * The table seen is its own turned one, and its places from the left above to the right below are z and -z. So
         * with (a, b, c, d) right above, the halved sums are the real part of that number, its other part negated, and
         * z; each stands here doubled, for which f is 2 more.
         */
        private void fillColumn(int j) {
            seen.makeProduct(moved, turned);
            int p = Table.placeOf(0, 1);
            x[j] = 2 * seen.parts[p];
            y[j] = seen.parts[p + 1] - seen.parts[p + 3];
            x[PAULIS + j] = -2 * seen.parts[p + 2];
            y[PAULIS + j] = -(seen.parts[p + 1] + seen.parts[p + 3]);
            p = Table.placeOf(0, 0);
            x[2 * PAULIS + j] = 2 * seen.parts[p];
            y[2 * PAULIS + j] = 2 * seen.parts[p + 1];
        }

        /** x + y R over R is y and half of x times R: whole just if x is even. */
        private void lower() {
            for (int i = 0; i < MOST_LOWERINGS && f > 0 && isEven(); i++) {
                for (int at = 0; at < ALL; at++) {
                    long half = x[at] / 2;
                    x[at] = y[at];
                    y[at] = half;
                }
                f--;
            }
        }

        private boolean isEven() {
            for (int at = 0; at < ALL; at++) {
                if ((x[at] & 1) != 0) {
                    return false;
                }
            }
            return true;
        }
    }

    /** The 192 tables that are products of H, S, W, which gate leads where, and their cheapest words. */
    private static final class Cliffords {
        private static final int[] PLAIN_GATES = {H, S, X, Z, W};
        /** Above every length of a cheapest word, so that cost goes ahead of length in a rank. */
        private static final int RANKS_PER_COST = 1024;
        private static final int NO_RANK = 1 << 30;

        private final int[] keys = new int[CLIFFORDS];
        private final int[] behind = new int[CLIFFORDS * GATES];
        private final int[] without = new int[CLIFFORDS * GATES];
        private final int[] parent = new int[CLIFFORDS];
        private final int[] parentGate = new int[CLIFFORDS];
        private final int[] ranks = new int[CLIFFORDS];
        private final int[] rankedPrices = new int[GATES];
        private final Table work = new Table();
        private int found = 0;
        private boolean ranked = false;

        /** Goes ahead of all else here; worked out with the first call that needs it, as many runs never do. */
        void prepare() {
            if (found > 0) {
                return;
            }
            work.makeUnit();
            keys[0] = keyOf(work);
            found = 1;
            for (int k = 0; k < found && k < CLIFFORDS; k++) {
                reach(k, H);
                reach(k, S);
                reach(k, W);
            }
            for (int k = 0; k < CLIFFORDS; k++) {
                behind[k * GATES + Z] = next(next(k, S), S);
            }
            for (int k = 0; k < CLIFFORDS; k++) {
                behind[k * GATES + X] = next(next(next(k, H), Z), H);
            }
            for (int gate : PLAIN_GATES) {
                fillWithout(gate);
            }
        }

        int find(Table table) {
            return findKey(keyOf(table));
        }

        /** A table becomes CLIFFORD k. */
        void load(int k, Table into) {
            int key = keys[k];
            for (int i = Table.ALL_PARTS - 1; i >= 0; i--) {
                into.parts[i] = key % 3 - 1;
                key /= 3;
            }
            into.e = key;
        }

        int next(int k, int gate) {
            return behind[k * GATES + gate];
        }

        /**
         * A whole table as one int: each number of a CLIFFORD is 0 or a power of w, its E 0 or 1. Of another table
         * there may be none: NOT.
         */
        private static int keyOf(Table table) {
            if (table.e > 1) {
                return NOT;
            }
            int key = table.e;
            for (int i = 0; i < Table.ALL_PARTS; i++) {
                long part = table.parts[i];
                if (part < -1 || part > 1) {
                    return NOT;
                }
                key = key * 3 + (int) part + 1;
            }
            return key;
        }

        private int findKey(int key) {
            for (int k = 0; k < found; k++) {
                if (keys[k] == key) {
                    return k;
                }
            }
            return NOT;
        }

        private void reach(int k, int gate) {
            load(k, work);
            work.applyBehind(gate);
            int key = keyOf(work);
            int to = findKey(key);
            if (to < 0 && found < CLIFFORDS) {
                to = found;
                keys[to] = key;
                parent[to] = k;
                parentGate[to] = gate;
                found++;
            }
            behind[k * GATES + gate] = Math.max(to, 0);
        }

        /** Which CLIFFORD is left of each, when a gate is taken away ahead of it; a parent comes ahead of its child. */
        private void fillWithout(int gate) {
            for (int k = 0; k < CLIFFORDS; k++) {
                if (behind[k * GATES + gate] == 0) {
                    without[gate] = k;
                }
            }
            for (int k = 1; k < CLIFFORDS; k++) {
                without[k * GATES + gate] = next(without[parent[k] * GATES + gate], parentGate[k]);
            }
        }

        /** Ranks for told prices; those of T and U count for nothing here. */
        void rankBy(int[] prices) {
            prepare();
            if (ranked && isRankedBy(prices)) {
                return;
            }
            System.arraycopy(prices, 0, rankedPrices, 0, GATES);
            ranked = true;
            for (int k = 0; k < CLIFFORDS; k++) {
                ranks[k] = NO_RANK;
            }
            ranks[0] = 0;
            boolean changes = true;
            for (int pass = 0; pass < CLIFFORDS && changes; pass++) {
                changes = improveRanks();
            }
        }

        private boolean isRankedBy(int[] prices) {
            for (int gate : PLAIN_GATES) {
                if (rankedPrices[gate] != prices[gate]) {
                    return false;
                }
            }
            return true;
        }

        private boolean improveRanks() {
            boolean changes = false;
            for (int k = 0; k < CLIFFORDS; k++) {
                for (int gate : PLAIN_GATES) {
                    int to = behind[k * GATES + gate];
                    int rank = ranks[k] + weightOf(gate);
                    if (rank < ranks[to]) {
                        ranks[to] = rank;
                        changes = true;
                    }
                }
            }
            return changes;
        }

        private int weightOf(int gate) {
            return rankedPrices[gate] * RANKS_PER_COST + 1;
        }

        int costOf(int k) {
            return ranks[k] / RANKS_PER_COST;
        }

        int lengthOf(int k) {
            return ranks[k] % RANKS_PER_COST;
        }

        /** The i-th gate of the cheapest word, NOT behind its end. */
        int gateOf(int k, int i) {
            if (i >= lengthOf(k)) {
                return NOT;
            }
            int rest = k;
            for (int at = 0; at < i; at++) {
                rest = restOf(rest);
            }
            return firstGateOf(rest);
        }

        /** What a cheapest word leaves behind its first gate is a cheapest word itself. */
        int restOf(int k) {
            int gate = firstGateOf(k);
            return gate < 0 ? k : without[k * GATES + gate];
        }

        int firstGateOf(int k) {
            for (int gate : PLAIN_GATES) {
                if (ranks[without[k * GATES + gate]] + weightOf(gate) == ranks[k]) {
                    return gate;
                }
            }
            return NOT;
        }
    }

    /** Normal forms with fewest T. */
    private static final class Normal {
        /** The rows that may come to the word: T, then H T, then S H T. */
        private static final int SYLLABLES = 3;

        private final Table left = new Table();
        private final Table trial = new Table();
        private final Channel shape = new Channel();

        /** False if the form has too many gates. */
        boolean form(Table table, Cliffords cliffords, Row into) {
            into.size = 0;
            left.makeCopy(table);
            shape.makeOf(left);
            int count = shape.f;
            for (int i = 0; i < MOST_GATES && count > 0; i++) {
                int syllable = findSyllable(count);
                if (syllable < 0 || !addSyllable(into, syllable)) {
                    return false;
                }
                left.makeCopy(trial);
                count--;
            }
            return count == 0 && addCheapest(into, cliffords);
        }

        /** The one by which the T-count falls; the trial is then what it leaves. */
        private int findSyllable(int count) {
            for (int syllable = 0; syllable < SYLLABLES; syllable++) {
                trial.makeCopy(left);
                takeAway(syllable);
                shape.makeOf(trial);
                if (shape.f == count - 1) {
                    return syllable;
                }
            }
            return NOT;
        }

        /** S turned is S, Z; H turned is H; T turned is U. */
        private void takeAway(int syllable) {
            if (syllable == 2) {
                trial.applyAhead(S);
                trial.applyAhead(Z);
            }
            if (syllable >= 1) {
                trial.applyAhead(H);
            }
            trial.applyAhead(U);
        }

        private static boolean addSyllable(Row into, int syllable) {
            boolean isHeld = syllable < 2 || into.add(S);
            isHeld = isHeld && (syllable < 1 || into.add(H));
            return isHeld && into.add(T);
        }

        private boolean addCheapest(Row into, Cliffords cliffords) {
            int rest = cliffords.find(left);
            if (rest < 0) {
                return false;
            }
            int length = cliffords.lengthOf(rest);
            for (int i = 0; i < length; i++) {
                if (!into.add(cliffords.firstGateOf(rest))) {
                    return false;
                }
                rest = cliffords.restOf(rest);
            }
            return true;
        }
    }

    /** A row of gates, 60 at most. */
    private static final class Row {
        /** Every step of shortening takes a gate away or has two U fewer. */
        private static final int MOST_STEPS = 2 * MOST_GATES;

        final int[] gates = new int[MOST_GATES];
        int size = 0;

        void makeCopy(Row from) {
            System.arraycopy(from.gates, 0, gates, 0, from.size);
            size = from.size;
        }

        boolean isSame(Row that) {
            if (size != that.size) {
                return false;
            }
            for (int i = 0; i < size; i++) {
                if (gates[i] != that.gates[i]) {
                    return false;
                }
            }
            return true;
        }

        /** NOT where there is none. */
        int at(int i) {
            return isBelow(i, size) ? gates[i] : NOT;
        }

        boolean add(int gate) {
            if (size >= MOST_GATES) {
                return false;
            }
            gates[size] = gate;
            size++;
            return true;
        }

        void cut(int from, int many) {
            if (from < 0 || many < 0 || from + many > size) {
                return;
            }
            for (int i = from + many; i < size; i++) {
                gates[i - many] = gates[i];
            }
            size -= many;
        }

        int countOf(int gate) {
            int count = 0;
            for (int i = 0; i < size; i++) {
                if (gates[i] == gate) {
                    count++;
                }
            }
            return count;
        }

        int costBy(int[] prices) {
            int cost = 0;
            for (int i = 0; i < size; i++) {
                cost += prices[gates[i]];
            }
            return cost;
        }

        void shorten() {
            boolean changes = true;
            for (int step = 0; step < MOST_STEPS && changes; step++) {
                changes = shortenOnce();
            }
        }

        private boolean shortenOnce() {
            for (int i = 0; i < size; i++) {
                if (shortenAt(i)) {
                    return true;
                }
            }
            return false;
        }

        /** No two rules can begin at one place, so their order is free. */
        private boolean shortenAt(int i) {
            int first = gates[i];
            int second = at(i + 1);
            if (goesOut(first, second)) {
                cut(i, 2);
                return true;
            }
            if (standsEightTimes(W, i)) {
                cut(i, EIGHTHS);
                return true;
            }
            if (first == U && second == U) {
                gates[i] = S;
                gates[i + 1] = Z;
                return true;
            }
            int gate = joinOf(first, second);
            if (gate < 0) {
                return false;
            }
            gates[i] = gate;
            cut(i + 1, 1);
            return true;
        }

        private static boolean goesOut(int first, int second) {
            boolean isTwice = first == second && (first == H || first == X || first == Z);
            return isTwice || first == T && second == U || first == U && second == T;
        }

        private static int joinOf(int first, int second) {
            if (first == T && second == T) {
                return S;
            }
            if (first == S && second == S) {
                return Z;
            }
            return first == S && second == U || first == U && second == S ? T : NOT;
        }

        private boolean standsEightTimes(int gate, int from) {
            for (int i = 0; i < EIGHTHS; i++) {
                if (at(from + i) != gate) {
                    return false;
                }
            }
            return true;
        }
    }

    /** All that the image holds. */
    private static final class Bench {
        final Table[] registers = new Table[REGISTERS];
        final Row[] words = new Row[WORDS];
        final int[] prices = new int[GATES];

        Bench() {
            for (int r = 0; r < REGISTERS; r++) {
                registers[r] = new Table();
            }
            for (int word = 0; word < WORDS; word++) {
                words[word] = new Row();
            }
            for (int gate = 0; gate < GATES; gate++) {
                prices[gate] = 1;
            }
        }

        void makeCopy(Bench from) {
            for (int r = 0; r < REGISTERS; r++) {
                registers[r].makeCopy(from.registers[r]);
            }
            for (int word = 0; word < WORDS; word++) {
                words[word].makeCopy(from.words[word]);
            }
            System.arraycopy(from.prices, 0, prices, 0, GATES);
        }

        int countGates() {
            int count = 0;
            for (Row word : words) {
                count += word.size;
            }
            return count;
        }

        int countGate(int gate) {
            int count = 0;
            for (Row word : words) {
                count += word.countOf(gate);
            }
            return count;
        }

        int sumPrices() {
            int sum = 0;
            for (int price : prices) {
                sum += price;
            }
            return sum;
        }
    }

    /** What words were ahead of their latest changes; places are used round and round. */
    private static final class History {
        private final Row[] rows = new Row[MOST_CHANGES];
        private final int[] owners = new int[MOST_CHANGES];
        private int next = 0;
        int size = 0;

        History() {
            for (int i = 0; i < MOST_CHANGES; i++) {
                rows[i] = new Row();
            }
        }

        void keep(int word, Row row) {
            rows[next].makeCopy(row);
            owners[next] = word;
            next = (next + 1) % MOST_CHANGES;
            size = Math.min(size + 1, MOST_CHANGES);
        }

        void giveBack(Row[] words) {
            if (size == 0) {
                return;
            }
            next = (next + MOST_CHANGES - 1) % MOST_CHANGES;
            size--;
            words[owners[next]].makeCopy(rows[next]);
        }
    }

    /** The bytes fed so far. */
    private static final class Tape {
        private final int[] bytes = new int[MOST_BYTES];
        int size = 0;

        boolean add(int letter) {
            if (size >= MOST_BYTES) {
                return false;
            }
            bytes[size] = letter;
            size++;
            return true;
        }

        /** NOT where there is none. */
        int at(int i) {
            return isBelow(i, size) ? bytes[i] : NOT;
        }

        /** NOT if no figure stands there. */
        int figureAt(int i) {
            int letter = at(i);
            return letter >= '0' && letter <= '9' ? letter - '0' : NOT;
        }

        /** The first byte with which no text goes on, the length if it ends too early, NOT if all is well. */
        int findFault() {
            int open = 0;
            boolean needsItem = true;
            for (int i = 0; i < size; i++) {
                int letter = bytes[i];
                if (gateOfLetter(letter) >= 0) {
                    needsItem = false;
                } else if (letter == '~') {
                    needsItem = true;
                } else if (letter == '(' && open < MOST_OPEN) {
                    open++;
                    needsItem = true;
                } else if (letter == ')' && open > 0 && !needsItem) {
                    open--;
                } else if (figureAt(i) < 0 || at(i - 1) != ')') {
                    return i;
                }
            }
            return needsItem || open > 0 ? size : NOT;
        }
    }

    /**
     * Works out the gates of a text without a fault. The rows of all open groups stand one behind another in one row,
     * each held to 60 by itself: what stands ahead of a group does not count in it, as a figure 0 may take it away.
     */
    private static final class Reader {
        private static final int TURNED_S = 2;
        private static final int TURNED_W = 7;

        private final int[] row = new int[(MOST_OPEN + 1) * MOST_GATES];
        private final int[] spare = new int[MOST_GATES];
        private final int[] starts = new int[MOST_OPEN + 1];
        private final int[] turnsAhead = new int[MOST_OPEN + 1];
        private int size = 0;
        private int level = 0;
        private int turns = 0;

        /** False if there are too many gates, on the way too. */
        boolean read(Tape tape, Row into) {
            size = 0;
            level = 0;
            turns = 0;
            starts[0] = 0;
            for (int i = 0; i < tape.size; i++) {
                if (!readByte(tape, i)) {
                    return false;
                }
            }
            into.size = 0;
            for (int i = 0; i < size; i++) {
                if (!into.add(row[i])) {
                    return false;
                }
            }
            return true;
        }

        /** A figure is read with the group that it stands behind. */
        private boolean readByte(Tape tape, int i) {
            int letter = tape.at(i);
            int gate = gateOfLetter(letter);
            if (gate >= 0) {
                return readGate(gate);
            }
            if (letter == '~') {
                turns++;
                return true;
            }
            if (letter == '(') {
                return openGroup();
            }
            if (letter == ')') {
                int figure = tape.figureAt(i + 1);
                return closeGroup(figure < 0 ? 1 : figure);
            }
            return true;
        }

        private boolean isHeld(int from, int many) {
            return from - starts[level] + many <= MOST_GATES;
        }

        private boolean readGate(int gate) {
            int from = size;
            if (!isHeld(from, 1)) {
                return false;
            }
            row[size] = gate;
            size++;
            return turnItem(from);
        }

        private boolean openGroup() {
            if (level >= MOST_OPEN) {
                return false;
            }
            turnsAhead[level] = turns;
            turns = 0;
            level++;
            starts[level] = size;
            return true;
        }

        private boolean closeGroup(int figure) {
            if (level <= 0) {
                return false;
            }
            int from = starts[level];
            int many = size - from;
            level--;
            turns = turnsAhead[level];
            if (!isHeld(from, many * figure)) {
                return false;
            }
            size = from + many * figure;
            for (int i = from + many; i < size; i++) {
                row[i] = row[i - many];
            }
            return turnItem(from);
        }

        /** Turned once for each ~ ahead of the item: twice is not nothing, as S and W become more gates. */
        private boolean turnItem(int from) {
            int many = turns;
            turns = 0;
            for (int i = 0; i < many; i++) {
                if (!turnOnce(from)) {
                    return false;
                }
            }
            return true;
        }

        private boolean turnOnce(int from) {
            int many = size - from;
            if (many > MOST_GATES) {
                return false;
            }
            int widths = 0;
            for (int i = 0; i < many; i++) {
                spare[i] = row[from + i];
                widths += widthOf(spare[i]);
            }
            if (!isHeld(from, widths)) {
                return false;
            }
            size = from;
            for (int i = many - 1; i >= 0; i--) {
                int width = widthOf(spare[i]);
                for (int j = 0; j < width && size < row.length; j++) {
                    row[size] = turnedGate(spare[i], j);
                    size++;
                }
            }
            return true;
        }

        /** How many gates a turned one is. */
        private static int widthOf(int gate) {
            if (gate == S) {
                return TURNED_S;
            }
            return gate == W ? TURNED_W : 1;
        }

        /** The j-th of them. */
        private static int turnedGate(int gate, int j) {
            switch (gate) {
                case T:
                    return U;
                case U:
                    return T;
                case S:
                    return j == 0 ? S : Z;
                default:
                    return gate;
            }
        }
    }
}
