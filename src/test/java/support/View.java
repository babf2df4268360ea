import java.util.LinkedHashMap;
import java.util.Map;

/** Everything that an object shows, by call: one entry for each call that was made to see it. */
final class View {
    private View() {
    }

    static Map<String, Long> of(UnixPersonality x) {
        Map<String, Long> seen = new LinkedHashMap<>();
        for (int p = 0; p < 5; p++) {
            process(x, p, seen);
        }
        for (int node = 0; node < 10; node++) {
            node(x, node, seen);
        }
        seen.put("pipe(0)", (long) x.pipe(0));
        seen.put("pipe(1)", (long) x.pipe(1));
        seen.put("executed()", x.executed());
        long printed = x.printed();
        seen.put("printed()", printed);
        for (int k = 0; k <= printed && k < 32; k++) {
            seen.put("output(" + k + ")", (long) x.output(k));
        }
        return seen;
    }

    private static void process(UnixPersonality x, int p, Map<String, Long> seen) {
        seen.put("state(" + p + ")", (long) x.state(p));
        seen.put("spot(" + p + ")", (long) x.spot(p));
        for (int i = 0; i < 4; i++) {
            seen.put("register(" + p + ", " + i + ")", (long) x.register(p, i));
            seen.put("descriptor(" + p + ", " + i + ")", (long) x.descriptor(p, i));
        }
    }

    private static void node(UnixPersonality x, int node, Map<String, Long> seen) {
        int kind = x.kind(node);
        seen.put("kind(" + node + ")", (long) kind);
        seen.put("size(" + node + ")", (long) x.size(node));
        for (int name = kind == 2 ? 0 : 15; name < 16; name++) {
            seen.put("entry(" + node + ", " + name + ")", (long) x.entry(node, name));
        }
        for (int i = 0; i < (kind == 1 ? 20 : 1); i++) {
            seen.put("word(" + node + ", " + i + ")", (long) x.word(node, i));
        }
    }
}
