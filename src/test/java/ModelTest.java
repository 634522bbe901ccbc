import java.util.Random;

/** Promises 1 to 19: runs of calls by chance (always the same ones), compared with PlainGraphs. */
public final class ModelTest {
    private static final int RUNS = 1500;
    private static final int MOST_CALLS = 512;
    private static final int SINGLE_CALLS = 38;
    private static final int REST_PROBES = 4;
    /** No step needs more: 131 to swap nodes of full graphs, 33 to compare after it, 30 as a graph grows. */
    private static final int MOST_IN_A_STEP = 194;

    private final Random random;
    private final MergeGraphs x = new MergeGraphs();
    private final PlainGraphs plain = new PlainGraphs();
    private final int names;
    private final int verbs;
    private final int nodes;
    /** Runs with few graphs get them full. */
    private final int graphs;
    private int calls = 0;

    private ModelTest(int seed) {
        random = new Random(seed);
        names = random.nextInt(5);
        verbs = 1 + random.nextInt(3);
        nodes = 1 + random.nextInt(6);
        graphs = 2 + random.nextInt(5);
    }

    public static void main(String[] args) {
        int runs = args.length > 0 ? Integer.parseInt(args[0]) : RUNS;
        int from = args.length > 1 ? Integer.parseInt(args[1]) : 0;
        for (int seed = from; seed < from + runs; seed++) {
            new ModelTest(seed).run(seed);
        }
        Due.end("ModelTest");
    }

    /** Single calls go on to the 512th: behind it nothing is promised. */
    private void run(int seed) {
        while (calls + stateCalls() + MOST_IN_A_STEP <= MOST_CALLS) {
            step("run " + seed + ", call " + calls + ": ");
        }
        compareState("run " + seed + ", state: ");
        while (calls < MOST_CALLS) {
            call("run " + seed + ", call " + calls + ": ", random.nextInt(SINGLE_CALLS));
        }
    }

    private void step(String at) {
        int kind = random.nextInt(SINGLE_CALLS + 2);
        if (kind < SINGLE_CALLS) {
            call(at, kind);
        } else {
            swapNodes(at, random.nextInt(graphs), random.nextInt(graphs));
        }
        if (random.nextInt(8) == 0) {
            compareGraph(at + "state", random.nextInt(graphs));
        }
        compareRest(at + "state");
    }

    private int term() {
        int t = random.nextInt(names + nodes);
        return stray(t < nodes ? 40 + t : t - nodes, -1, 46);
    }

    private int graph() {
        return stray(random.nextInt(graphs), -1, 6);
    }

    private int stray(int usual, int low, int high) {
        int dice = random.nextInt(400);
        return dice == 0 ? low : dice == 1 ? high : dice == 2 ? Integer.MAX_VALUE : dice == 3 ? Integer.MIN_VALUE : usual;
    }

    private void call(String at, int kind) {
        int a = graph();
        int b = graph();
        int c = graph();
        int d = graph();
        int k = random.nextInt(8) - 1;
        int node = 39 + random.nextInt(8);
        int s = term();
        int o = term();
        int v = stray(random.nextInt(verbs), -1, 40);
        boolean back = random.nextBoolean();
        switch (kind) {
            case 0: case 1: case 2: same(at + "drop", () -> plain.drop(a, s, v, o), () -> x.drop(a, s, v, o)); break;
            case 3: same(at + "copy", () -> plain.copy(a, b), () -> x.copy(a, b)); break;
            case 4: same(at + "clash", () -> plain.clash(k, k & 1), () -> x.clash(k, k & 1)); break;
            case 5: same(at + "part", () -> plain.part(k & 1, k), () -> x.part(k & 1, k)); break;
            case 6: same(at + "size", () -> plain.size(a, k), () -> x.size(a, k)); break;
            case 7: same(at + "core", () -> plain.core(a), () -> x.core(a)); break;
            case 8: same(at + "join", () -> plain.join(a, b, c), () -> x.join(a, b, c)); break;
            case 9: same(at + "merge", () -> plain.merge(a, b, c, d), () -> x.merge(a, b, c, d)); break;
            case 10: same(at + "change", () -> plain.change(a, b), () -> x.change(a, b)); break;
            case 11: case 12: same(at + "apply", () -> plain.apply(a, back), () -> x.apply(a, back)); break;
            case 13: same(at + "image", () -> plain.image(a, b, node), () -> x.image(a, b, node)); break;
            case 14: same(at + "putting", () -> plain.putting(a, b, node), () -> x.putting(a, b, node)); break;
            case 15: same(at + "form", () -> plain.form(a, k), () -> x.form(a, k)); break;
            case 16: same(at + "lean", () -> Due.bit(plain.lean(a)), () -> Due.bit(x.lean(a))); break;
            case 17: same(at + "alike", () -> Due.bit(plain.alike(a, b)), () -> Due.bit(x.alike(a, b))); break;
            case 18: same(at + "follows", () -> Due.bit(plain.follows(a, b)), () -> Due.bit(x.follows(a, b))); break;
            default: same(at + "put", () -> plain.put(a, s, v, o), () -> x.put(a, s, v, o)); break;
        }
    }

    /** Graphs by chance are hardly ever alike: so one is made from another by putting nodes for nodes. */
    private void swapNodes(String at, int a, int b) {
        if (a == b) {
            return;
        }
        int turn = random.nextInt(6);
        int step = random.nextBoolean() ? 1 : 5;
        while (plain.size(b, 0) > 0) {
            int number = plain.fact(b, 0);
            int s = number / 4096;
            int v = number / 64 % 64;
            int o = number % 64;
            same(at + "drop", () -> plain.drop(b, s, v, o), () -> x.drop(b, s, v, o));
        }
        for (int k = 0; k < plain.size(a, 0); k++) {
            int number = plain.fact(a, k);
            int s = turned(number / 4096, turn, step);
            int o = turned(number % 64, turn, step);
            same(at + "put", () -> plain.put(b, s, number / 64 % 64, o), () -> x.put(b, s, number / 64 % 64, o));
        }
        same(at + "alike, turned", () -> 1, () -> Due.bit(x.alike(a, b)));
        for (int node = 39; node < 47; node++) {
            int n = node;
            same(at + "image, turned", () -> plain.image(a, b, n), () -> x.image(a, b, n));
        }
        for (int k = 0; k <= plain.size(a, 0); k++) {
            int i = k;
            long form = Due.answerOf(() -> x.form(a, i));
            calls++;
            Due.due(at + "form, turned", form, () -> x.form(b, i));
            calls++;
        }
    }

    private static int turned(int term, int turn, int step) {
        return term < 40 ? term : 40 + ((term - 40) * step + turn) % 6;
    }

    /** How many calls compareState makes. */
    private int stateCalls() {
        int sum = 6 + REST_PROBES * 2;
        for (int graph = 0; graph < 6; graph++) {
            sum += plain.size(graph, 0);
        }
        return sum;
    }

    private void compareState(String at) {
        for (int graph = 0; graph < 6; graph++) {
            compareGraph(at, graph);
        }
        for (int i = 0; i < REST_PROBES; i++) {
            compareRest(at);
        }
    }

    private void compareGraph(String at, int graph) {
        int count = plain.size(graph, 0);
        for (int k = 0; k <= count; k++) {
            int i = k;
            same(at + ", fact", () -> plain.fact(graph, i), () -> x.fact(graph, i));
        }
    }

    /** Looks at one clash and at one part of the change at hand. */
    private void compareRest(String at) {
        int k = random.nextInt(1 + random.nextInt(62));
        int what = stray(random.nextInt(2), -1, 2);
        same(at + ", clash", () -> plain.clash(k, what), () -> x.clash(k, what));
        same(at + ", part", () -> plain.part(what, k), () -> x.part(what, k));
    }

    private void same(String what, Due.Call plainCall, Due.Call call) {
        Due.due(what, Due.answerOf(plainCall), call);
        calls++;
    }
}
