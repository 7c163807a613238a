import java.util.Arrays;
import java.util.Random;

/** Runs of 512 calls, ordinary ones, edges and wrong ones mixed, each answer compared with the model's. */
public final class ModelTest {
    private static final int CALLS = 512;
    private static final int[] WRONG = {-1, -2, -3, 7, 10, 192, Integer.MIN_VALUE, Integer.MAX_VALUE};
    private static final Due due = new Due();

    private final Random random;
    private final String name;
    private final RootGates gates = new RootGates();
    private final Model model = new Model();
    private int made = 0;

    private ModelTest(long seed) {
        random = new Random(seed);
        name = "run " + seed;
    }

    public static void main(String[] args) {
        int runs = args.length > 0 ? Integer.parseInt(args[0]) : 60;
        int first = args.length > 1 ? Integer.parseInt(args[1]) : 0;
        for (int seed = first; seed < first + runs; seed++) {
            new ModelTest(seed).run();
            if (due.hasWrong()) {
                break;
            }
        }
        due.end();
    }

    private void run() {
        int kind = random.nextInt(5);
        while (made < CALLS && !due.hasWrong()) {
            step(kind);
        }
    }

    private void step(int kind) {
        int dice = random.nextInt(100);
        if (kind == 1 && dice < 60) {
            climb();
        } else if (kind == 2 && dice < 40 || dice < 10) {
            text();
        } else if (kind == 3 && dice < 60) {
            pushMany();
        } else if (kind == 4 && dice < 50) {
            prices();
        } else {
            anyCall();
        }
    }

    /** Makes E and the T-count high. */
    private void climb() {
        int r = random.nextInt(3);
        for (int i = 0; i < 12; i++) {
            ask(random.nextBoolean() ? "gate" : "ahead", r, i % 2 == 0 ? 0 : random.nextInt(7));
        }
        switch (random.nextInt(5)) {
            case 0 -> ask("times", random.nextInt(4), r, random.nextInt(4));
            case 1 -> ask("normal", random.nextInt(3), r);
            case 2 -> ask("channel", r, random.nextInt(3), random.nextInt(3), random.nextInt(2));
            case 3 -> ask("turn", r);
            default -> ask("count", r);
        }
    }

    private void pushMany() {
        int word = random.nextInt(3);
        int only = random.nextInt(4);
        for (int i = random.nextInt(12); i >= 0; i--) {
            ask("push", word, only == 0 ? 5 : only == 1 ? new int[] {1, 2, 4, 6}[random.nextInt(4)] : random.nextInt(7));
        }
        switch (random.nextInt(6)) {
            case 0 -> ask("shorter", word);
            case 1 -> ask("value", random.nextInt(4), word);
            case 2 -> ask("parts", word, random.nextInt(3));
            case 3 -> ask("undo");
            case 4 -> fitsOf(word);
            default -> ask("told", random.nextInt(10));
        }
    }

    private void fitsOf(int word) {
        ask("value", 3, word);
        ask("fits", word, random.nextInt(60), 3);
        ask("fits", word, random.nextInt(10), 3);
    }

    private void prices() {
        ask("price", random.nextInt(7), random.nextInt(3) == 0 ? 0 : random.nextInt(10));
        int k = random.nextInt(192);
        for (int i = -2; i < 12; i++) {
            ask("cheapest", k, i);
        }
        ask("take", random.nextInt(4), k);
        ask("leads", k, random.nextInt(7));
    }

    private void text() {
        for (char c : randomText().toCharArray()) {
            ask("feed", c);
        }
        int word = random.nextInt(random.nextInt(8) == 0 ? 4 : 3);
        ask("write", word);
        ask("word", word, random.nextInt(60));
        ask("word", word, -1);
    }

    private String randomText() {
        StringBuilder text = new StringBuilder();
        if (random.nextInt(4) == 0) {
            String signs = "HTSXZWU~~(())0239 h";
            for (int i = random.nextInt(10); i > 0; i--) {
                text.append(signs.charAt(random.nextInt(signs.length())));
            }
            return text.toString();
        }
        items(text, random.nextInt(5));
        if (random.nextInt(6) == 0 && text.length() > 0) {
            text.setCharAt(random.nextInt(text.length()), "HW~()5"  .charAt(random.nextInt(6)));
        }
        return text.toString();
    }

    private void items(StringBuilder text, int depth) {
        for (int i = random.nextInt(4); i >= 0; i--) {
            while (random.nextInt(4) == 0) {
                text.append('~');
            }
            if (depth > 0 && random.nextBoolean()) {
                text.append('(');
                items(text, depth - 1);
                text.append(')');
                if (random.nextInt(3) > 0) {
                    text.append((char) ('0' + random.nextInt(random.nextInt(3) == 0 ? 10 : 4)));
                }
            } else {
                text.append(Model.LETTERS.charAt(random.nextInt(7)));
            }
        }
    }

    private void anyCall() {
        int r = below(4);
        int word = below(3);
        switch (random.nextInt(31)) {
            case 0 -> ask("one", r);
            case 1 -> ask("gate", r, below(7));
            case 2 -> ask("ahead", r, below(7));
            case 3 -> ask("times", r, below(4), below(4));
            case 4 -> ask("turn", r);
            case 5 -> ask("part", r, below(2), below(2), below(4));
            case 6 -> ask("e", r);
            case 7 -> ask("phase", r, below(4));
            case 8 -> ask("channel", r, below(3), below(3), below(2));
            case 9 -> ask("count", r);
            case 10 -> ask("clifford", r);
            case 11 -> ask("take", r, below(192));
            case 12 -> ask("leads", below(192), below(7));
            case 13 -> ask("price", below(7), below(10));
            case 14 -> ask("cheapest", below(192), below(12) - 2);
            case 15 -> ask("push", word, below(7));
            case 16 -> ask("pull", word);
            case 17 -> ask("word", word, below(63) - 2);
            case 18 -> ask("value", r, word);
            case 19 -> ask("shorter", word);
            case 20 -> ask("normal", word, r);
            case 21 -> ask("fits", word, below(60), r);
            case 22 -> ask("parts", word, below(3));
            case 23 -> ask("undo");
            case 24 -> ask("feed", random.nextInt(8) == 0 ? random.nextInt(160) - 10 : below(7));
            case 25 -> ask("wipe");
            case 26 -> ask("write", word);
            case 27 -> ask("image");
            case 28 -> ask("restore");
            default -> ask("told", below(10));
        }
    }

    private int below(int bound) {
        return random.nextInt(25) == 0 ? WRONG[random.nextInt(WRONG.length)] : random.nextInt(bound);
    }

    private void ask(String call, int... a) {
        if (made >= CALLS) {
            return;
        }
        made++;
        due.is(name + ", call " + made + ": " + call + Arrays.toString(a), Calls.answer(gates, call, a),
            model.call(call, a));
    }
}
