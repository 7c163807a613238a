import java.math.BigInteger;
import java.util.ArrayDeque;
import java.util.ArrayList;
import java.util.Arrays;
import java.util.HashMap;
import java.util.List;
import java.util.Map;
import java.util.PriorityQueue;

/**
 * The document once more, word by word and slowly, by other ways than the class goes: numbers without a bound, gates as
 * tables, channels by their definition, words as texts, cheapest words by whole words compared.
 */
final class Model {
    static final String LETTERS = "HTSXZWU";
    static final int BAD = -1, NOT = -2, FULL = -3, STATE = -5;
    static final long VOID = Long.MIN_VALUE;

    /** a + b w + c ww + d www. */
    record Num(BigInteger a, BigInteger b, BigInteger c, BigInteger d) {
        static Num of(long a, long b, long c, long d) {
            return new Num(BigInteger.valueOf(a), BigInteger.valueOf(b), BigInteger.valueOf(c), BigInteger.valueOf(d));
        }

        Num plus(Num o) {
            return new Num(a.add(o.a), b.add(o.b), c.add(o.c), d.add(o.d));
        }

        Num times(Num o) {
            BigInteger[] mine = {a, b, c, d};
            BigInteger[] others = {o.a, o.b, o.c, o.d};
            BigInteger[] sum = {BigInteger.ZERO, BigInteger.ZERO, BigInteger.ZERO, BigInteger.ZERO};
            for (int i = 0; i < 4; i++) {
                for (int j = 0; j < 4; j++) {
                    BigInteger p = mine[i].multiply(others[j]);
                    int k = (i + j) % 4;
                    sum[k] = i + j >= 4 ? sum[k].subtract(p) : sum[k].add(p);
                }
            }
            return new Num(sum[0], sum[1], sum[2], sum[3]);
        }

        Num conjugate() {
            return new Num(a, d.negate(), c.negate(), b.negate());
        }

        /** Null if it is no multiple. */
        Num overR() {
            Num twice = times(R);
            for (BigInteger x : new BigInteger[] {twice.a, twice.b, twice.c, twice.d}) {
                if (x.testBit(0)) {
                    return null;
                }
            }
            return new Num(twice.a.shiftRight(1), twice.b.shiftRight(1), twice.c.shiftRight(1), twice.d.shiftRight(1));
        }

        long part(int i) {
            return (i == 0 ? a : i == 1 ? b : i == 2 ? c : d).longValueExact();
        }
    }

    static final Num ZERO = Num.of(0, 0, 0, 0);
    static final Num ONE = Num.of(1, 0, 0, 0);
    static final Num R = Num.of(0, 1, 0, -1);

    /** Four numbers, row by row, over R to the e, in lowest form. */
    record Tab(List<Num> n, int e) {
        static Tab of(int e, Num... n) {
            List<Num> now = List.of(n);
            int left = e;
            while (left > 0) {
                List<Num> next = new ArrayList<>();
                for (Num x : now) {
                    if (x.overR() != null) {
                        next.add(x.overR());
                    }
                }
                if (next.size() < 4) {
                    break;
                }
                now = next;
                left--;
            }
            return new Tab(now, left);
        }

        Tab times(Tab o) {
            Num[] p = new Num[4];
            for (int i = 0; i < 4; i++) {
                p[i] = n.get(i & 2).times(o.n.get(i & 1)).plus(n.get((i & 2) + 1).times(o.n.get((i & 1) + 2)));
            }
            return of(e + o.e, p);
        }

        Tab turned() {
            return of(e, n.get(0).conjugate(), n.get(2).conjugate(), n.get(1).conjugate(), n.get(3).conjugate());
        }
    }

    static final Tab UNIT = Tab.of(0, ONE, ZERO, ZERO, ONE);
    static final Tab PAULI_1 = Tab.of(0, ZERO, Num.of(0, 0, -1, 0), Num.of(0, 0, 1, 0), ZERO);
    static final Tab[] GATE = gates();

    private static Tab[] gates() {
        Num minus = Num.of(-1, 0, 0, 0);
        Num w = Num.of(0, 1, 0, 0);
        Tab t = Tab.of(0, ONE, ZERO, ZERO, w);
        return new Tab[] {Tab.of(1, ONE, ONE, ONE, minus), t, Tab.of(0, ONE, ZERO, ZERO, Num.of(0, 0, 1, 0)),
            Tab.of(0, ZERO, ONE, ONE, ZERO), Tab.of(0, ONE, ZERO, ZERO, minus), Tab.of(0, w, ZERO, ZERO, w), t.turned()};
    }

    static final Tab[] PAULI = {GATE[3], PAULI_1, GATE[4]};

    /** Nine pairs x, y and behind them F. */
    static long[] channelOf(Tab a) {
        int most = 2 * a.e + 2;
        BigInteger[] xy = new BigInteger[18];
        for (int at = 0; at < 9; at++) {
            Tab p = PAULI[at / 3].times(a).times(PAULI[at % 3]).times(a.turned());
            Num sum = p.n.get(0).plus(p.n.get(3));
            for (int i = p.e + 2; i < most; i++) {
                sum = sum.times(R);
            }
            if (p.e + 2 > most || sum.c.signum() != 0 || !sum.d.equals(sum.b.negate())) {
                throw new IllegalStateException("not real");
            }
            xy[2 * at] = sum.a;
            xy[2 * at + 1] = sum.b;
        }
        for (int f = 0; f <= most; f++) {
            long[] all = overR(xy, most - f);
            if (all != null) {
                all[18] = f;
                return all;
            }
        }
        throw new IllegalStateException("no F");
    }

    /** All over R so many times, or null if not all is whole: times R as many times, over 2 as many times. */
    private static long[] overR(BigInteger[] xy, int many) {
        long[] all = new long[19];
        for (int at = 0; at < 9; at++) {
            BigInteger x = xy[2 * at];
            BigInteger y = xy[2 * at + 1];
            for (int i = 0; i < many; i++) {
                BigInteger was = x;
                x = y.shiftLeft(1);
                y = was;
            }
            BigInteger two = BigInteger.ONE.shiftLeft(many);
            if (x.mod(two).signum() != 0 || y.mod(two).signum() != 0) {
                return null;
            }
            all[2 * at] = x.divide(two).longValueExact();
            all[2 * at + 1] = y.divide(two).longValueExact();
        }
        return all;
    }

    static int countOf(Tab a) {
        return (int) channelOf(a)[18];
    }

    static final List<Tab> CLIFFORD = new ArrayList<>();
    static final Map<Tab, Integer> NUMBER = new HashMap<>();

    static {
        CLIFFORD.add(UNIT);
        NUMBER.put(UNIT, 0);
        for (int k = 0; k < CLIFFORD.size(); k++) {
            for (int gate : new int[] {0, 2, 5}) {
                Tab next = CLIFFORD.get(k).times(GATE[gate]);
                if (NUMBER.putIfAbsent(next, CLIFFORD.size()) == null) {
                    CLIFFORD.add(next);
                }
            }
        }
    }

    static Tab valueOf(String word) {
        Tab t = UNIT;
        for (char c : word.toCharArray()) {
            t = t.times(GATE[LETTERS.indexOf(c)]);
        }
        return t;
    }

    static int costOf(String word, int[] prices) {
        int cost = 0;
        for (char c : word.toCharArray()) {
            cost += prices[LETTERS.indexOf(c)];
        }
        return cost;
    }

    private static final Map<String, String[]> CHEAPEST = new HashMap<>();
    private static int[][] leads = null;

    private static int lead(int k, int gate) {
        if (leads == null) {
            leads = new int[CLIFFORD.size()][7];
            for (int[] row : leads) {
                Arrays.fill(row, -1);
            }
        }
        if (leads[k][gate] < 0) {
            leads[k][gate] = NUMBER.get(CLIFFORD.get(k).times(GATE[gate]));
        }
        return leads[k][gate];
    }

    private record Found(int cost, String word, int k) {
        /** By cost, length, then gates by number. */
        int compare(Found o) {
            if (cost != o.cost) {
                return Integer.compare(cost, o.cost);
            }
            if (word.length() != o.word.length()) {
                return Integer.compare(word.length(), o.word.length());
            }
            for (int i = 0; i < word.length(); i++) {
                int by = LETTERS.indexOf(word.charAt(i)) - LETTERS.indexOf(o.word.charAt(i));
                if (by != 0) {
                    return by;
                }
            }
            return 0;
        }
    }

    static String cheapestOf(int k, int[] prices) {
        String key = Arrays.toString(prices);
        if (!CHEAPEST.containsKey(key)) {
            CHEAPEST.put(key, allCheapest(prices));
        }
        return CHEAPEST.get(key)[k];
    }

    private static String[] allCheapest(int[] prices) {
        String[] words = new String[CLIFFORD.size()];
        PriorityQueue<Found> queue = new PriorityQueue<>(Found::compare);
        queue.add(new Found(0, "", 0));
        while (!queue.isEmpty()) {
            Found now = queue.poll();
            if (words[now.k] != null) {
                continue;
            }
            words[now.k] = now.word;
            for (int gate : new int[] {0, 2, 3, 4, 5}) {
                queue.add(new Found(now.cost + prices[gate], now.word + LETTERS.charAt(gate), lead(now.k, gate)));
            }
        }
        return words;
    }

    /** The whole form, however long. */
    static String normalOf(Tab table, int[] prices) {
        StringBuilder word = new StringBuilder();
        Tab left = table;
        int count = countOf(left);
        while (count > 0) {
            String taken = null;
            for (String row : new String[] {"T", "HT", "SHT"}) {
                if (countOf(valueOf(row).turned().times(left)) == count - 1) {
                    if (taken != null) {
                        throw new IllegalStateException("not just one");
                    }
                    taken = row;
                }
            }
            word.append(taken);
            left = valueOf(taken).turned().times(left);
            count--;
        }
        return word.append(cheapestOf(NUMBER.get(left), prices)).toString();
    }

    static String shorterOf(String word) {
        String[][] rules = {{"HH", ""}, {"XX", ""}, {"ZZ", ""}, {"TU", ""}, {"UT", ""}, {"WWWWWWWW", ""}, {"TT", "S"},
            {"UU", "SZ"}, {"SS", "Z"}, {"SU", "T"}, {"US", "T"}};
        String now = word;
        while (true) {
            int place = Integer.MAX_VALUE;
            String[] first = null;
            for (String[] rule : rules) {
                int at = now.indexOf(rule[0]);
                if (at >= 0 && at < place) {
                    place = at;
                    first = rule;
                }
            }
            if (first == null) {
                return now;
            }
            now = now.substring(0, place) + first[1] + now.substring(place + first[0].length());
        }
    }

    // ---- texts ----

    static boolean isText(String text) {
        int open = 0;
        for (char c : text.toCharArray()) {
            open += c == '(' ? 1 : c == ')' ? -1 : 0;
            if (open > 4) {
                return false;
            }
        }
        if (text.contains("I")) {
            return false;
        }
        String now = text.replaceAll("[HTSXZWU]", "I");
        String before;
        do {
            before = now;
            now = now.replaceAll("~I", "I").replaceAll("\\(I+\\)[0-9]?", "I");
        } while (!now.equals(before));
        return now.matches("I+");
    }

    static boolean goesOn(String start) {
        for (String item : new String[] {"", "H"}) {
            for (String close : new String[] {"", ")", "))", ")))", "))))"}) {
                if (isText(start + item + close)) {
                    return true;
                }
            }
        }
        return false;
    }

    static int faultOf(String text) {
        for (int i = 0; i < text.length(); i++) {
            if (!goesOn(text.substring(0, i + 1))) {
                return i;
            }
        }
        return isText(text) ? -1 : text.length();
    }

    private static final class Reading {
        final String text;
        int at = 0;
        boolean full = false;

        Reading(String text) {
            this.text = text;
        }

        String held(String row) {
            if (row.length() > 60) {
                full = true;
                return "";
            }
            return row;
        }

        String items() {
            String row = "";
            while (at < text.length() && text.charAt(at) != ')') {
                row = held(row + item());
            }
            return row;
        }

        String item() {
            char c = text.charAt(at++);
            if (c == '~') {
                return held(turned(item()));
            }
            if (c != '(') {
                return "" + c;
            }
            String row = items();
            at++;
            int figure = 1;
            if (at < text.length() && Character.isDigit(text.charAt(at))) {
                figure = text.charAt(at++) - '0';
            }
            return held(row.repeat(figure));
        }

        static String turned(String row) {
            StringBuilder all = new StringBuilder();
            for (int i = row.length() - 1; i >= 0; i--) {
                char c = row.charAt(i);
                all.append(c == 'T' ? "U" : c == 'U' ? "T" : c == 'S' ? "SZ" : c == 'W' ? "WWWWWWW" : "" + c);
            }
            return all.toString();
        }
    }

    /** Null if it is too much; the text has no fault. */
    static String readText(String text) {
        Reading reading = new Reading(text);
        String row = reading.items();
        return reading.full ? null : row;
    }

    // ---- the bench ----

    private Tab[] registers = {UNIT, UNIT, UNIT, UNIT};
    private String[] words = {"", "", ""};
    private int[] prices = {1, 1, 1, 1, 1, 1, 1};
    private String tape = "";
    private final ArrayDeque<String[]> changes = new ArrayDeque<>();
    private Tab[] keptRegisters = null;
    private String[] keptWords = null;
    private int[] keptPrices = null;

    private static boolean in(int i, int bound) {
        return i >= 0 && i < bound;
    }

    private int put(int r, Tab t) {
        if (t.e > 40) {
            return STATE;
        }
        registers[r] = t;
        return t.e;
    }

    private int change(int word, String now) {
        if (now.length() > 60) {
            return FULL;
        }
        if (!words[word].equals(now)) {
            changes.addLast(words.clone());
            if (changes.size() > 8) {
                changes.removeFirst();
            }
            words[word] = now;
        }
        return now.length();
    }

    private int allGates() {
        return words[0].length() + words[1].length() + words[2].length();
    }

    /** A call by its name. */
    long call(String name, int... a) {
        switch (name) {
            case "one": {
                if (!in(a[0], 4)) {
                    return BAD;
                }
                int was = registers[a[0]].e;
                registers[a[0]] = UNIT;
                return was;
            }
            case "gate":
                return !in(a[0], 4) || !in(a[1], 7) ? BAD : put(a[0], registers[a[0]].times(GATE[a[1]]));
            case "ahead":
                return !in(a[0], 4) || !in(a[1], 7) ? BAD : put(a[0], GATE[a[1]].times(registers[a[0]]));
            case "times":
                return !in(a[0], 4) || !in(a[1], 4) || !in(a[2], 4) ? BAD
                    : put(a[0], registers[a[1]].times(registers[a[2]]));
            case "turn":
                return !in(a[0], 4) ? BAD : put(a[0], registers[a[0]].turned());
            case "part":
                return !in(a[0], 4) || !in(a[1], 2) || !in(a[2], 2) || !in(a[3], 4) ? VOID
                    : registers[a[0]].n.get(a[1] * 2 + a[2]).part(a[3]);
            case "e":
                return !in(a[0], 4) ? BAD : registers[a[0]].e;
            case "phase": {
                if (!in(a[0], 4) || !in(a[1], 4)) {
                    return BAD;
                }
                for (int j = 0; j < 8; j++) {
                    if (valueOf("W".repeat(j)).times(registers[a[1]]).equals(registers[a[0]])) {
                        return j;
                    }
                }
                return NOT;
            }
            case "channel":
                return !in(a[0], 4) || !in(a[1], 3) || !in(a[2], 3) || !in(a[3], 2) ? VOID
                    : channelOf(registers[a[0]])[(a[1] * 3 + a[2]) * 2 + a[3]];
            case "count":
                return !in(a[0], 4) ? BAD : countOf(registers[a[0]]);
            case "clifford":
                return !in(a[0], 4) ? BAD : NUMBER.getOrDefault(registers[a[0]], NOT);
            case "take":
                return !in(a[0], 4) || !in(a[1], 192) ? BAD : put(a[0], CLIFFORD.get(a[1]));
            case "leads":
                return !in(a[0], 192) || !in(a[1], 7) || a[1] == 1 || a[1] == 6 ? BAD
                    : NUMBER.get(CLIFFORD.get(a[0]).times(GATE[a[1]]));
            case "price": {
                if (!in(a[0], 7) || !in(a[1], 10)) {
                    return BAD;
                }
                int was = prices[a[0]];
                prices[a[0]] = a[1];
                return was;
            }
            case "cheapest":
                return !in(a[0], 192) || a[1] < -2 ? BAD : told(cheapestOf(a[0], prices), a[1]);
            default:
                return callOfWords(name, a);
        }
    }

    private int told(String word, int i) {
        if (i == -2) {
            return costOf(word, prices);
        }
        return i == -1 ? word.length() : i >= word.length() ? NOT : LETTERS.indexOf(word.charAt(i));
    }

    private long callOfWords(String name, int... a) {
        switch (name) {
            case "push":
                return !in(a[0], 3) || !in(a[1], 7) ? BAD : change(a[0], words[a[0]] + LETTERS.charAt(a[1]));
            case "pull": {
                if (!in(a[0], 3)) {
                    return BAD;
                }
                String was = words[a[0]];
                if (was.isEmpty()) {
                    return NOT;
                }
                change(a[0], was.substring(0, was.length() - 1));
                return LETTERS.indexOf(was.charAt(was.length() - 1));
            }
            case "word":
                return !in(a[0], 3) || a[1] < -2 ? BAD : told(words[a[0]], a[1]);
            case "value":
                return !in(a[0], 4) || !in(a[1], 3) ? BAD : put(a[0], valueOf(words[a[1]]));
            case "shorter":
                return !in(a[0], 3) ? BAD : change(a[0], shorterOf(words[a[0]]));
            case "normal":
                return !in(a[0], 3) || !in(a[1], 4) ? BAD : change(a[0], normalOf(registers[a[1]], prices));
            case "fits": {
                if (!in(a[0], 3) || !in(a[1], words[a[0]].length()) || !in(a[2], 4)) {
                    return BAD;
                }
                int bits = 0;
                for (int gate = 0; gate < 7; gate++) {
                    StringBuilder word = new StringBuilder(words[a[0]]);
                    word.setCharAt(a[1], LETTERS.charAt(gate));
                    bits |= valueOf(word.toString()).equals(registers[a[2]]) ? 1 << gate : 0;
                }
                return bits;
            }
            case "parts": {
                if (!in(a[0], 3) || !in(a[1], 3)) {
                    return BAD;
                }
                String x = words[a[0]];
                String y = words[a[1]];
                for (int i = 0; i < x.length() || i < y.length(); i++) {
                    Tab first = valueOf(x.substring(0, Math.min(i + 1, x.length())));
                    if (!first.equals(valueOf(y.substring(0, Math.min(i + 1, y.length()))))) {
                        return i;
                    }
                }
                return NOT;
            }
            default:
                return callOfRest(name, a);
        }
    }

    private long callOfRest(String name, int... a) {
        switch (name) {
            case "undo":
                if (changes.isEmpty()) {
                    return STATE;
                }
                words = changes.removeLast();
                return changes.size();
            case "feed":
                if (a[0] < 32 || a[0] > 126) {
                    return BAD;
                }
                if (tape.length() == 80) {
                    return FULL;
                }
                tape += (char) a[0];
                return tape.length();
            case "wipe": {
                int had = tape.length();
                tape = "";
                return had;
            }
            case "write": {
                if (!in(a[0], 3)) {
                    return BAD;
                }
                String text = tape;
                tape = "";
                if (faultOf(text) >= 0) {
                    return -100 - faultOf(text);
                }
                String row = readText(text);
                return row == null ? FULL : change(a[0], row);
            }
            case "image":
                keptRegisters = registers.clone();
                keptWords = words.clone();
                keptPrices = prices.clone();
                return allGates();
            case "restore":
                if (keptWords == null) {
                    return STATE;
                }
                registers = keptRegisters.clone();
                words = keptWords.clone();
                prices = keptPrices.clone();
                changes.clear();
                return allGates();
            case "told":
                if (a[0] == 0) {
                    return changes.size();
                }
                if (a[0] == 1) {
                    return tape.length();
                }
                if (a[0] == 2) {
                    return Arrays.stream(prices).sum();
                }
                if (!in(a[0] - 3, 7)) {
                    return BAD;
                }
                return String.join("", words).chars().filter(c -> c == LETTERS.charAt(a[0] - 3)).count();
            default:
                throw new IllegalArgumentException(name);
        }
    }
}
