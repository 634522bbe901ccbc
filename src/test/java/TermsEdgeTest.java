/** Boundary cases of "What it is" and of "Terms": the 512th call, graphs 0 to 5, 30 facts, names and nodes. */
public final class TermsEdgeTest {
    /** A call whose answer in a rich object is known. */
    private record Known(String name, long want, Edge.Call call) {
    }

    /** A call with one graph left open. */
    private interface GraphCall {
        long on(MergeGraphs x, int graph);
    }

    private record OfGraph(String name, GraphCall call) {
    }

    private static final int MOST_CALLS = 512;

    private static final Known[] EACH_METHOD = {
        new Known("put", 1, x -> x.put(5, 45, 39, 45)),
        new Known("put, no room", -1, x -> x.put(4, 45, 39, 45)),
        new Known("put, wrong term", Due.ARGUMENT, x -> x.put(4, 46, 39, 45)),
        new Known("drop", 1, x -> x.drop(4, 29, 3, 39)),
        new Known("copy", 30, x -> x.copy(4, 5)),
        new Known("size", 4, x -> x.size(0, 2)),
        new Known("fact", Due.number(40, 2, 41), x -> x.fact(0, 2)),
        new Known("fact, none such", Due.INDEX, x -> x.fact(0, 3)),
        new Known("alike", 1, x -> Due.bit(x.alike(0, 0))),
        new Known("image", 41, x -> x.image(0, 0, 41)),
        new Known("form", Due.number(2, 1, 40), x -> x.form(0, 1)),
        new Known("follows", 1, x -> Due.bit(x.follows(2, 0))),
        new Known("putting", 41, x -> x.putting(2, 0, 41)),
        new Known("lean", 1, x -> Due.bit(x.lean(4))),
        new Known("core", 0, x -> x.core(4)),
        new Known("join", 5, x -> x.join(0, 1, 5)),
        new Known("join, no room", -1, x -> x.join(4, 0, 5)),
        new Known("merge", 1, x -> x.merge(0, 1, 2, 5)),
        new Known("merge, no room", -1, x -> x.merge(5, 4, 0, 5)),
        new Known("clash", 1, x -> x.clash(0, 0)),
        new Known("change", 3, x -> x.change(1, 0)),
        new Known("part", Due.number(5, 5, 5), x -> x.part(1, 0)),
        new Known("apply", 1, x -> x.apply(0, false)),
        new Known("apply back", 1, x -> x.apply(1, true)),
        new Known("apply, can't be", 0, x -> x.apply(0, true))};

    /** Calls of all kinds that leave a rich object as it is. */
    private static final Edge.Call[] IDLE = {
        x -> x.put(4, 0, 3, 39), x -> x.put(4, 39, 0, 0), x -> x.drop(0, 0, 0, 0), x -> x.copy(1, 1),
        x -> x.size(0, 1), x -> x.fact(4, 29), x -> Due.bit(x.alike(0, 1)), x -> x.image(4, 4, 40),
        x -> x.form(2, 3), x -> Due.bit(x.follows(0, 2)), x -> x.putting(0, 0, 40), x -> Due.bit(x.lean(0)),
        x -> x.core(4), x -> x.join(4, 0, 1), x -> x.merge(0, 1, 2, 3), x -> x.merge(5, 4, 0, 4),
        x -> x.clash(0, 1), x -> x.change(0, 1), x -> x.part(0, 2), x -> x.apply(5, false)};

    private static final OfGraph[] EACH_GRAPH = {
        new OfGraph("put", (x, g) -> x.put(g, 0, 0, 0)),
        new OfGraph("drop", (x, g) -> x.drop(g, 0, 0, 0)),
        new OfGraph("copy from", (x, g) -> x.copy(g, 3)),
        new OfGraph("copy to", (x, g) -> x.copy(1, g)),
        new OfGraph("size", (x, g) -> x.size(g, 0)),
        new OfGraph("fact", (x, g) -> x.fact(g, 0)),
        new OfGraph("alike, first", (x, g) -> Due.bit(x.alike(g, 1))),
        new OfGraph("alike, second", (x, g) -> Due.bit(x.alike(1, g))),
        new OfGraph("image, first", (x, g) -> x.image(g, 1, 40)),
        new OfGraph("image, second", (x, g) -> x.image(1, g, 40)),
        new OfGraph("form", (x, g) -> x.form(g, 0)),
        new OfGraph("follows, first", (x, g) -> Due.bit(x.follows(g, 1))),
        new OfGraph("follows, second", (x, g) -> Due.bit(x.follows(1, g))),
        new OfGraph("putting, first", (x, g) -> x.putting(g, 1, 40)),
        new OfGraph("putting, second", (x, g) -> x.putting(1, g, 40)),
        new OfGraph("lean", (x, g) -> Due.bit(x.lean(g))),
        new OfGraph("core", (x, g) -> x.core(g)),
        new OfGraph("join, first", (x, g) -> x.join(g, 1, 3)),
        new OfGraph("join, second", (x, g) -> x.join(1, g, 3)),
        new OfGraph("join, to", (x, g) -> x.join(0, 1, g)),
        new OfGraph("merge, base", (x, g) -> x.merge(g, 1, 2, 3)),
        new OfGraph("merge, first", (x, g) -> x.merge(0, g, 2, 3)),
        new OfGraph("merge, second", (x, g) -> x.merge(0, 1, g, 3)),
        new OfGraph("merge, to", (x, g) -> x.merge(0, 1, 2, g)),
        new OfGraph("change, first", (x, g) -> x.change(g, 2)),
        new OfGraph("change, second", (x, g) -> x.change(2, g)),
        new OfGraph("apply", (x, g) -> x.apply(g, false)),
        new OfGraph("apply back", (x, g) -> x.apply(g, true))};

    private TermsEdgeTest() {
    }

    public static void main(String[] args) {
        the512thCallStillCounts();
        graphsAre0To5();
        thirtyFactsEachAtMost();
        namesEndAt39AndNodesAt45();
        verbsAreNames();
        numbersAtTheirEnds();
        allGraphsAreEmptyAtFirst();
        theOneNamedFirstIsThrown();
        Due.end("TermsEdgeTest");
    }

    private static void the512thCallStillCounts() {
        for (Edge.Call idle : IDLE) {
            MergeGraphs x = Edge.made(Edge::rich);
            idle.on(x);
            Due.dueText("an idle call leaves what shows", Edge.stateOf(Edge.made(Edge::rich)), Edge.stateOf(x));
        }
        for (Known known : EACH_METHOD) {
            MergeGraphs x = Edge.made(Edge::rich);
            for (int calls = Edge.RICH_CALLS; calls < MOST_CALLS - 1; calls++) {
                IDLE[calls % IDLE.length].on(x);
            }
            Due.due("call 512: " + known.name(), known.want(), () -> known.call().on(x));
            Edge.dueGood("call " + (Edge.RICH_CALLS + 1) + ": " + known.name(), known.want(), Edge::rich, known.call());
        }
    }

    private static void graphsAre0To5() {
        for (OfGraph each : EACH_GRAPH) {
            for (int graph : Edge.NO_GRAPHS) {
                Edge.dueIdle(each.name() + ", graph " + graph, Due.INDEX, x -> each.call().on(x, graph));
            }
            for (int graph : new int[] {Edge.FIRST_GRAPH, Edge.LAST_GRAPH}) {
                MergeGraphs x = Edge.made(Edge::rich);
                x.put(Edge.LAST_GRAPH, 1, 1, 1);
                long answer = Due.answerOf(() -> each.call().on(x, graph));
                Due.dueTrue(each.name() + ", graph " + graph + " is there", answer > Due.OTHER);
            }
        }
    }

    private static void thirtyFactsEachAtMost() {
        MergeGraphs x = new MergeGraphs();
        for (int graph = 0; graph < 6; graph++) {
            int g = graph;
            Edge.fillUp(x, g, 29);
            Due.due("the 30th of graph " + g, 1, () -> x.put(g, g, 0, 0));
            Due.due("the 31st of graph " + g, -1, () -> x.put(g, 45, 0, 0));
        }
        for (int graph = 0; graph < 6; graph++) {
            int g = graph;
            Due.due("full graph " + g, 30, () -> x.size(g, 0));
            Due.due("its own fact, graph " + g, 1, () -> x.drop(g, g, 0, 0));
        }
    }

    private static void namesEndAt39AndNodesAt45() {
        dueNodes("39 is a name", 0, "39 0 39");
        dueNodes("40 is a node", 1, "40 0 40");
        dueNodes("45 is a node", 1, "45 0 45");
        dueNodes("all nodes", 6, "40 0 41; 42 0 43; 44 0 45");
        dueNodes("names up to 39", 0, "38 0 39; 0 0 1");
        Edge.dueGood("nothing is put for name 39", 0, x -> {
            Due.fill(x, 0, "38 1 1");
            Due.fill(x, 1, "39 1 1");
        }, x -> Due.bit(x.follows(0, 1)));
        for (int node : new int[] {40, 45}) {
            Edge.dueGood("a name is put for node " + node, 38, x -> {
                Due.fill(x, 0, "38 1 1");
                x.put(1, node, 1, 1);
            }, x -> x.putting(0, 1, node));
        }
    }

    private static void dueNodes(String what, int want, String facts) {
        Edge.dueGood(what, want, x -> Due.fill(x, 0, facts), x -> x.size(0, 1));
    }

    private static void verbsAreNames() {
        Edge.dueGood("verb 39", 1, x -> { }, x -> x.put(0, 40, 39, 40));
        Edge.dueIdle("verb 40", Due.ARGUMENT, x -> x.put(5, 40, 40, 40));
        Edge.dueGood("a verb is neither subject nor object", 1, x -> x.put(0, 1, 39, 1), x -> x.size(0, 2));
        Edge.dueGood("nothing is put for a verb", 0, x -> {
            Due.fill(x, 0, "1 38 2");
            Due.fill(x, 1, "1 39 2");
        }, x -> Due.bit(x.follows(0, 1)));
    }

    private static void numbersAtTheirEnds() {
        Edge.dueGood("the least number", 0, x -> x.put(0, 0, 0, 0), x -> x.fact(0, 0));
        Edge.dueGood("the greatest number", 186861, x -> x.put(0, 45, 39, 45), x -> x.fact(0, 0));
        MergeGraphs x = new MergeGraphs();
        Due.fill(x, 0, "1 0 0; 0 39 45; 0 1 0; 0 0 45; 0 0 0");
        Due.dueText("object, verb and subject in order", "0 0 0; 0 0 45; 0 1 0; 0 39 45; 1 0 0;", Due.facts(x, 0));
    }

    private static void allGraphsAreEmptyAtFirst() {
        MergeGraphs x = new MergeGraphs();
        for (int graph = 0; graph < 6; graph++) {
            int g = graph;
            Due.due("at first, facts of graph " + g, 0, () -> x.size(g, 0));
        }
    }

    private static void theOneNamedFirstIsThrown() {
        for (int graph : Edge.NO_GRAPHS) {
            Edge.dueIdle("put, graph before s", Due.INDEX, x -> x.put(graph, -1, 0, 0));
            Edge.dueIdle("put, graph before v", Due.INDEX, x -> x.put(graph, 0, 40, 0));
            Edge.dueIdle("put, graph before o", Due.INDEX, x -> x.put(graph, 0, 0, 46));
            Edge.dueIdle("drop, graph before s", Due.INDEX, x -> x.drop(graph, 46, 0, 0));
            Edge.dueIdle("drop, graph before v", Due.INDEX, x -> x.drop(graph, 0, -1, 0));
            Edge.dueIdle("drop, graph before o", Due.INDEX, x -> x.drop(graph, 0, 0, -1));
            Edge.dueIdle("image, throwing before NONE", Due.INDEX, x -> x.image(graph, 0, 7));
            Edge.dueIdle("putting, throwing before NONE", Due.INDEX, x -> x.putting(0, graph, 7));
            Edge.dueIdle("join, throwing before NONE", Due.INDEX, x -> x.join(4, 0, graph));
            Edge.dueIdle("merge, throwing before NONE", Due.INDEX, x -> x.merge(5, 4, 0, graph));
        }
    }
}
