/** All that can be seen of an object behind some calls; each look has an object of its own, as some spoil others. */
final class Seen {
    interface Calls {
        void on(RootGates g);
    }

    private Seen() {
    }

    static String of(Calls calls) {
        StringBuilder text = new StringBuilder();
        RootGates g = behind(calls);
        for (int r = 0; r < 4; r++) {
            text.append("register ").append(Bench.table(g, r)).append('\n');
        }
        lookAtWords(behind(calls), text);
        lookAtPrices(behind(calls), text);
        lookAtChanges(behind(calls), text);
        g = behind(calls);
        text.append("tape ").append(g.wipe()).append('\n');
        g = behind(calls);
        text.append("write ").append(g.write(2)).append(' ').append(Bench.word(g, 2)).append('\n');
        g = behind(calls);
        text.append("image ").append(g.restore()).append('\n');
        lookAtWords(g, text);
        text.append("register ").append(Bench.table(g, 0)).append(" prices ").append(g.told(2)).append('\n');
        return text.toString();
    }

    private static RootGates behind(Calls calls) {
        RootGates g = new RootGates();
        calls.on(g);
        return g;
    }

    private static void lookAtWords(RootGates g, StringBuilder text) {
        for (int word = 0; word < 3; word++) {
            text.append("word ").append(Bench.word(g, word)).append('\n');
        }
    }

    private static void lookAtPrices(RootGates g, StringBuilder text) {
        text.append("prices");
        for (int gate = 0; gate < 7; gate++) {
            text.append(' ').append(g.price(gate, 0));
        }
        text.append('\n');
    }

    /** Sizes and last gates behind each undo(), as whole words would be too many calls. */
    private static void lookAtChanges(RootGates g, StringBuilder text) {
        text.append("changes ").append(g.told(0));
        for (int left = g.undo(); left >= 0; left = g.undo()) {
            text.append(" | ").append(left);
            for (int word = 0; word < 3; word++) {
                int size = g.word(word, -1);
                text.append(' ').append(size).append(':').append(size == 0 ? RootGates.NOT : g.word(word, size - 1));
            }
        }
        text.append('\n');
    }
}
