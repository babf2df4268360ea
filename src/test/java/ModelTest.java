import java.util.TreeMap;

/** Made-up programs and calls, the same ones every time, answered by the class and by the model alike. */
public final class ModelTest {
    private static final int OBJECTS = 12000;
    private static final int CALLS = 512;
    private static final int OBJECTS_GOING_ON = 100;
    private static final int CALLS_MORE = 2000;
    /** How often each op is drawn. */
    private static final int[] WEIGHT = {
        2, 40, 4, 3, 3, 5, 3, 3, 6, 3, 9, 6, 2, 22, 7, 16, 22, 7, 6, 5, 7, 8, 7, 7, 4, 4, 3, 4, 4, 1, 1, 1
    };

    private final int object;
    private long seed;
    private final UnixPersonality x = new UnixPersonality();
    private final Model m = new Model();
    private int calls = 0;

    private ModelTest(int object) {
        this.object = object;
        this.seed = object * 7919L + 12345L;
    }

    private int draw(int bound) {
        seed = seed * 6364136223846793005L + 1442695040888963407L;
        return (int) ((seed >>> 33) % bound);
    }

    private boolean oneIn(int n) {
        return draw(n) == 0;
    }

    private int around(int from, int to) {
        if (oneIn(60)) {
            return oneIn(2) ? Integer.MIN_VALUE : Integer.MAX_VALUE;
        }
        return from - 1 + draw(to - from + 3);
    }

    private int drawOp() {
        int sum = 0;
        for (int weight : WEIGHT) {
            sum += weight;
        }
        int left = draw(sum);
        int op = 0;
        while (left >= WEIGHT[op]) {
            left -= WEIGHT[op];
            op++;
        }
        return op;
    }

    private int drawNumber(int op) {
        switch (op) {
            case 1: return oneIn(8) ? draw(40) - 10 : oneIn(12) ? 15 : draw(5);
            case 7: case 8: case 9: return oneIn(25) ? draw(60) - 30 : draw(18);
            case 13: return oneIn(3) ? 2 : draw(8) - 4;
            default: return draw(9) - 4;
        }
    }

    private int drawWord() {
        int op = drawOp();
        return Asm.word(op, draw(4), draw(4), drawNumber(op));
    }

    private void due(String call, long got, long want) {
        calls++;
        Check.due("object " + object + ", call " + calls + ": " + call, got, want);
    }

    private void file(int name, int i, int w) {
        due("file(" + name + ", " + i + ", " + w + ")", x.file(name, i, w), m.file(name, i, w));
    }

    private void spawn(int name, int with) {
        due("spawn(" + name + ", " + with + ")", x.spawn(name, with), m.spawn(name, with));
    }

    private void run(int n) {
        due("run(" + n + ")", x.run(n), m.run(n));
    }

    private void loadPrograms() {
        int programs = 1 + draw(4);
        for (int name = 0; name < programs; name++) {
            int length = oneIn(3) ? 20 : 8 + draw(13);
            for (int i = 0; i < length; i++) {
                file(name, i, drawWord());
            }
        }
        int spawned = 1 + draw(4);
        for (int i = 0; i < spawned; i++) {
            spawn(draw(programs), draw(6));
        }
    }

    private void ask() {
        int p = around(0, 4);
        int node = around(0, 9);
        int k;
        switch (draw(13)) {
            case 0: due("state(" + p + ")", x.state(p), m.state(p)); break;
            case 1: due("spot(" + p + ")", x.spot(p), m.spot(p)); break;
            case 2: k = around(0, 3); due("register(" + p + ", " + k + ")", x.register(p, k), m.register(p, k)); break;
            case 3: k = around(0, 3); due("descriptor(" + p + ", " + k + ")", x.descriptor(p, k), m.descriptor(p, k)); break;
            case 4: k = around(0, 15); due("entry(" + node + ", " + k + ")", x.entry(node, k), m.entry(node, k)); break;
            case 5: due("kind(" + node + ")", x.kind(node), m.kind(node)); break;
            case 6: due("size(" + node + ")", x.size(node), m.size(node)); break;
            case 7: k = around(0, 19); due("word(" + node + ", " + k + ")", x.word(node, k), m.word(node, k)); break;
            case 8: k = around(0, 1); due("pipe(" + k + ")", x.pipe(k), m.pipe(k)); break;
            case 9: due("executed()", x.executed(), m.executed); break;
            case 10: due("printed()", x.printed(), m.printed()); break;
            case 11: k = around(0, 33); due("output(" + k + ")", x.output(k), m.output(k)); break;
            default: k = around(0, 1); due("level(" + k + ")", x.level(k) ? 1 : 0, m.level(k) ? 1 : 0); break;
        }
    }

    private void play() {
        loadPrograms();
        while (calls < CALLS && !Check.anyWrong()) {
            if (oneIn(4)) {
                run(oneIn(12) ? around(0, 80) : 1 + draw(3));
            } else if (oneIn(14)) {
                spawn(oneIn(5) ? around(0, 14) : draw(4), draw(6));
            } else if (oneIn(30)) {
                file(oneIn(3) ? around(0, 14) : draw(6), around(0, 19), drawWord());
            } else {
                ask();
            }
        }
    }

    /** What is answered after the last call that counts is free, but no call may throw or fail to end. */
    private void goOn() {
        for (int i = 0; i < CALLS_MORE; i++) {
            int a = around(0, 14);
            int b = around(0, 19);
            x.file(a, b, oneIn(2) ? drawWord() : (int) seed);
            x.spawn(a, b);
            x.run(a);
            x.state(a);
            x.spot(a);
            x.register(a, b);
            x.descriptor(a, b);
            x.entry(a, b);
            x.kind(a);
            x.size(a);
            x.word(a, b);
            x.pipe(a);
            x.output(b);
            x.level(a);
        }
    }

    public static void main(String[] args) {
        TreeMap<String, Integer> happened = new TreeMap<>();
        for (int object = 0; object < OBJECTS && !Check.anyWrong(); object++) {
            ModelTest test = new ModelTest(object);
            test.play();
            if (object < OBJECTS_GOING_ON) {
                test.goOn();
            }
            test.m.happened.forEach((what, times) -> happened.merge(what, times, Integer::sum));
        }
        if (args.length > 0) {
            happened.forEach((what, times) -> System.out.println(times + "\t" + what));
        }
        Check.finish();
    }
}
