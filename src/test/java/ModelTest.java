import java.util.Random;

/** Promises 1 to 19: runs of calls by chance (always the same ones), compared with PlainGraphs. */
public final class ModelTest {
    private static final int RUNS = 400;
    private static final int CALLS = 300;

    private final Random random;
    private final MergeGraphs x = new MergeGraphs();
    private final PlainGraphs plain = new PlainGraphs();
    private final int names;
    private final int verbs;
    private final int nodes;

    private ModelTest(int seed) {
        random = new Random(seed);
        names = random.nextInt(5);
        verbs = 1 + random.nextInt(3);
        nodes = 1 + random.nextInt(6);
    }

    public static void main(String[] args) {
        int runs = args.length > 0 ? Integer.parseInt(args[0]) : RUNS;
        int from = args.length > 1 ? Integer.parseInt(args[1]) : 0;
        for (int seed = from; seed < from + runs; seed++) {
            new ModelTest(seed).run(seed);
        }
        Due.end("ModelTest");
    }

    private void run(int seed) {
        for (int i = 0; i < CALLS; i++) {
            String name = "run " + seed + ", call " + i + ": ";
            call(name);
            compareState(name + "state");
        }
    }

    private int term() {
        int t = random.nextInt(names + nodes);
        return stray(t < nodes ? 40 + t : t - nodes, -1, 46);
    }

    private int graph() {
        return stray(random.nextInt(6), -1, 6);
    }

    private int stray(int usual, int low, int high) {
        int dice = random.nextInt(400);
        return dice == 0 ? low : dice == 1 ? high : dice == 2 ? Integer.MAX_VALUE : dice == 3 ? Integer.MIN_VALUE : usual;
    }

    private void call(String at) {
        int a = graph();
        int b = graph();
        int c = graph();
        int d = graph();
        int k = random.nextInt(8) - 1;
        int node = 39 + random.nextInt(8);
        int s = term();
        int o = term();
        int v = stray(random.nextInt(verbs), -1, 40);
        boolean back = random.nextBoolean();
        switch (random.nextInt(40)) {
            case 0: case 1: case 2: same(at + "drop", () -> plain.drop(a, s, v, o), () -> x.drop(a, s, v, o)); break;
            case 3: same(at + "copy", () -> plain.copy(a, b), () -> x.copy(a, b)); break;
            case 4: case 5: swapNodes(at, a, b); break;
            case 6: same(at + "size", () -> plain.size(a, k), () -> x.size(a, k)); break;
            case 7: same(at + "core", () -> plain.core(a), () -> x.core(a)); break;
            case 8: same(at + "join", () -> plain.join(a, b, c), () -> x.join(a, b, c)); break;
            case 9: same(at + "merge", () -> plain.merge(a, b, c, d), () -> x.merge(a, b, c, d)); break;
            case 10: same(at + "change", () -> plain.change(a, b), () -> x.change(a, b)); break;
            case 11: case 12: same(at + "apply", () -> plain.apply(a, back), () -> x.apply(a, back)); break;
            case 13: same(at + "image", () -> plain.image(a, b, node), () -> x.image(a, b, node)); break;
            case 14: same(at + "putting", () -> plain.putting(a, b, node), () -> x.putting(a, b, node)); break;
            case 15: same(at + "form", () -> plain.form(a, k), () -> x.form(a, k)); break;
            case 16: same(at + "lean", () -> Due.bit(plain.lean(a)), () -> Due.bit(x.lean(a))); break;
            case 17: same(at + "alike", () -> Due.bit(plain.alike(a, b)), () -> Due.bit(x.alike(a, b))); break;
            case 18: same(at + "follows", () -> Due.bit(plain.follows(a, b)), () -> Due.bit(x.follows(a, b))); break;
            default: same(at + "put", () -> plain.put(a, s, v, o), () -> x.put(a, s, v, o)); break;
        }
    }

    /** Graphs by chance are hardly ever alike: so one is made from another by putting nodes for nodes. */
    private void swapNodes(String at, int a, int b) {
        if (a < 0 || a > 5 || b < 0 || b > 5 || a == b) {
            return;
        }
        int turn = random.nextInt(6);
        int step = random.nextBoolean() ? 1 : 5;
        while (plain.size(b, 0) > 0) {
            int number = plain.fact(b, 0);
            plain.drop(b, number / 4096, number / 64 % 64, number % 64);
            x.drop(b, number / 4096, number / 64 % 64, number % 64);
        }
        for (int k = 0; k < plain.size(a, 0); k++) {
            int number = plain.fact(a, k);
            int s = turned(number / 4096, turn, step);
            int o = turned(number % 64, turn, step);
            same(at + "put", () -> plain.put(b, s, number / 64 % 64, o), () -> x.put(b, s, number / 64 % 64, o));
        }
        Due.due(at + "alike, turned", 1, () -> Due.bit(x.alike(a, b)));
        for (int node = 39; node < 47; node++) {
            int n = node;
            same(at + "image, turned", () -> plain.image(a, b, n), () -> x.image(a, b, n));
        }
        for (int k = 0; k <= plain.size(a, 0); k++) {
            int i = k;
            same(at + "form, turned", () -> Due.answerOf(() -> x.form(a, i)), () -> Due.answerOf(() -> x.form(b, i)));
        }
    }

    private static int turned(int term, int turn, int step) {
        return term < 40 ? term : 40 + ((term - 40) * step + turn) % 6;
    }

    private void compareState(String at) {
        for (int graph = 0; graph < 6; graph++) {
            int g = graph;
            int count = plain.size(g, 0);
            for (int k = 0; k <= count; k++) {
                int i = k;
                same(at + ", fact", () -> plain.fact(g, i), () -> x.fact(g, i));
            }
        }
        for (int k = 0; k < 4; k++) {
            int i = random.nextInt(62) / (1 + k * k);
            int what = stray(random.nextInt(2), -1, 2);
            same(at + ", clash", () -> plain.clash(i, what), () -> x.clash(i, what));
            same(at + ", part", () -> plain.part(what, i), () -> x.part(what, i));
        }
    }

    private static void same(String what, Due.Call plainCall, Due.Call call) {
        Due.due(what, Due.answerOf(plainCall), call);
    }
}
