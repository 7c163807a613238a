/** The calls of the face by their names, for tests that ask an object and the model the same. */
final class Calls {
    static final String[] NAMES = {"one", "gate", "ahead", "times", "turn", "part", "e", "phase", "channel", "count",
        "clifford", "take", "leads", "price", "cheapest", "push", "pull", "word", "value", "shorter", "normal", "fits",
        "parts", "undo", "feed", "wipe", "write", "image", "restore", "told"};
    /** Of each call the ends of its arguments' ranges: the least and the most of each argument, or what is near them. */
    static final int[][] RANGES = {{0, 3}, {0, 3, 0, 6}, {0, 3, 0, 6}, {0, 3, 0, 3, 0, 3}, {0, 3},
        {0, 3, 0, 1, 0, 1, 0, 3}, {0, 3}, {0, 3, 0, 3}, {0, 3, 0, 2, 0, 2, 0, 1}, {0, 3}, {0, 3}, {0, 3, 0, 191},
        {0, 191, 0, 6}, {0, 6, 0, 9}, {0, 191, -2, 3}, {0, 2, 0, 6}, {0, 2}, {0, 2, -2, 60}, {0, 3, 0, 2}, {0, 2},
        {0, 2, 0, 3}, {0, 2, 0, 60, 0, 3}, {0, 2, 0, 2}, {}, {32, 126}, {}, {0, 2}, {}, {}, {0, 9}};

    private Calls() {
    }

    static long answer(RootGates gates, String call, int... a) {
        return switch (call) {
            case "one" -> gates.one(a[0]);
            case "gate" -> gates.gate(a[0], a[1]);
            case "ahead" -> gates.ahead(a[0], a[1]);
            case "times" -> gates.times(a[0], a[1], a[2]);
            case "turn" -> gates.turn(a[0]);
            case "part" -> gates.part(a[0], a[1], a[2], a[3]);
            case "e" -> gates.e(a[0]);
            case "phase" -> gates.phase(a[0], a[1]);
            case "channel" -> gates.channel(a[0], a[1], a[2], a[3]);
            case "count" -> gates.count(a[0]);
            case "clifford" -> gates.clifford(a[0]);
            case "take" -> gates.take(a[0], a[1]);
            case "leads" -> gates.leads(a[0], a[1]);
            case "price" -> gates.price(a[0], a[1]);
            case "cheapest" -> gates.cheapest(a[0], a[1]);
            case "push" -> gates.push(a[0], a[1]);
            case "pull" -> gates.pull(a[0]);
            case "word" -> gates.word(a[0], a[1]);
            case "value" -> gates.value(a[0], a[1]);
            case "shorter" -> gates.shorter(a[0]);
            case "normal" -> gates.normal(a[0], a[1]);
            case "fits" -> gates.fits(a[0], a[1], a[2]);
            case "parts" -> gates.parts(a[0], a[1]);
            case "undo" -> gates.undo();
            case "feed" -> gates.feed(a[0]);
            case "wipe" -> gates.wipe();
            case "write" -> gates.write(a[0]);
            case "image" -> gates.image();
            case "restore" -> gates.restore();
            case "told" -> gates.told(a[0]);
            default -> throw new IllegalArgumentException(call);
        };
    }
}
