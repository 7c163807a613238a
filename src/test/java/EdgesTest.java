import java.util.ArrayList;
import java.util.Arrays;
import java.util.List;
import java.util.Random;

/**
 * Every call of the face with every mixture of arguments at, next to and far beyond the ends of their ranges, in states
 * at the ends of theirs, each answer compared with the model's; and the 512th call of an object.
 */
public final class EdgesTest {
    private static final int CALLS = 512;
    private static final Due due = new Due();

    private final int state;
    private RootGates gates;
    private Model model;
    private int made;

    private EdgesTest(int state) {
        this.state = state;
        begin();
    }

    public static void main(String[] args) {
        for (int state = 0; state < 4; state++) {
            EdgesTest test = new EdgesTest(state);
            for (int call = 0; call < Calls.NAMES.length; call++) {
                test.allMixtures(call);
            }
        }
        lastCall();
        due.end();
    }

    /** Of a new object, of one that is full, of one in between, of one with an image behind other things. */
    private void begin() {
        gates = new RootGates();
        model = new Model();
        made = 0;
        if (state == 1) {
            fill();
        } else if (state >= 2) {
            text(0, "HTSXZWU");
            text(1, "~(HTS)2");
            for (int gate : new int[] {0, 1, 0, 2, 1}) {
                ask("gate", 1, gate);
            }
            ask("take", 2, 191);
        }
        if (state == 3) {
            ask("image");
            ask("price", 2, 9);
            ask("push", 2, 6);
            text(0, "(H)0");
        }
    }

    private void fill() {
        for (int gate = 0; gate < 7; gate++) {
            ask("price", gate, 9);
        }
        for (int word = 0; word < 3; word++) {
            text(word, word == 0 ? "((HT)5)6" : word == 1 ? "((W)6)9(U)6" : "((SHT)5)4");
        }
        ask("value", 0, 0);
        ask("times", 1, 0, 0);
        ask("gate", 1, 0);
        for (int i = 0; i < 19; i++) {
            ask("gate", 1, 1);
            ask("gate", 1, 0);
        }
        ask("image");
        for (int i = 0; i < 81; i++) {
            ask("feed", 'H');
        }
    }

    private void text(int word, String text) {
        for (char c : text.toCharArray()) {
            ask("feed", c);
        }
        ask("write", word);
    }

    private void ask(String call, int... a) {
        made++;
        due.is("state " + state + ", " + call + Arrays.toString(a), Calls.answer(gates, call, a), model.call(call, a));
    }

    private void allMixtures(int call) {
        int[] range = Calls.RANGES[call];
        List<int[]> mixtures = new ArrayList<>();
        mixtures.add(new int[0]);
        for (int i = 0; i < range.length; i += 2) {
            List<int[]> longer = new ArrayList<>();
            for (int[] mixture : mixtures) {
                for (int value : edges(range[i], range[i + 1], range.length > 4)) {
                    int[] more = Arrays.copyOf(mixture, mixture.length + 1);
                    more[mixture.length] = value;
                    longer.add(more);
                }
            }
            mixtures = longer;
        }
        for (int[] mixture : mixtures) {
            if (made >= CALLS) {
                begin();
            }
            ask(Calls.NAMES[call], mixture);
        }
    }

    private static int[] edges(int least, int most, boolean areFew) {
        if (areFew) {
            return new int[] {least - 1, least, most, most + 1, Integer.MIN_VALUE, Integer.MAX_VALUE};
        }
        return new int[] {Integer.MIN_VALUE, Integer.MIN_VALUE + 1, least - 2, least - 1, least, least + 1, most - 1,
            most, most + 1, most + 2, Integer.MAX_VALUE - 1, Integer.MAX_VALUE};
    }

    /** Nothing wears out: a run of mixed calls, its 512th answer as due as its first. */
    private static void lastCall() {
        Random random = new Random(512);
        due.about(1, "An object is used for at most 512 calls after it has been made; "
            + "what later calls answer is free.");
        for (int run = 0; run < 20; run++) {
            EdgesTest test = new EdgesTest(0);
            while (test.made < CALLS - 1) {
                int call = random.nextInt(Calls.NAMES.length);
                int[] a = new int[Calls.RANGES[call].length / 2];
                for (int i = 0; i < a.length; i++) {
                    int least = Calls.RANGES[call][2 * i];
                    a[i] = least + random.nextInt(Calls.RANGES[call][2 * i + 1] - least + 1);
                }
                test.ask(Calls.NAMES[call], a);
            }
            test.ask("told", run % 10);
        }
    }
}
