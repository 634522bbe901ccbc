/** Boundary cases of promises 10 to 13: follows, putting, lean, core. */
public final class FollowsEdgeTest {
    private static final int MIN = Integer.MIN_VALUE;
    private static final int MAX = Integer.MAX_VALUE;
    private static final int[] NO_NODES = {-1, 0, 1, 2, 39, 46, MIN, MAX};

    private FollowsEdgeTest() {
    }

    public static void main(String[] args) {
        followsOfEmptyAndFull();
        followsRefuses();
        puttingAtTheEnds();
        puttingIsNoneIfItDoesNotFollow();
        puttingIsNoneIfNoNodeOfTheSecond();
        puttingRefuses();
        leanOfEmptyAndFull();
        leanRefuses();
        coreOfEmptyAndFull();
        coreRefuses();
        Due.end("FollowsEdgeTest");
    }

    private static void dueFollows(String what, boolean want, Edge.Setup setup) {
        Edge.dueIdle(what, Due.bit(want), setup, x -> Due.bit(x.follows(0, 1)));
    }

    private static void followsOfEmptyAndFull() {
        dueFollows("empty from empty", true, x -> x.put(2, 0, 0, 0));
        dueFollows("empty from full", true, x -> Edge.fillUp(x, 0, 30));
        dueFollows("full from empty", false, x -> Edge.fillUp(x, 1, 30));
        dueFollows("one name's fact from empty", false, x -> x.put(1, 0, 0, 0));
        dueFollows("one node's fact from empty", false, x -> x.put(1, 45, 0, 45));
        dueFollows("full from itself, no nodes", true, FollowsEdgeTest::twoFull);
        dueFollows("29 of 30", true, x -> {
            twoFull(x);
            x.drop(1, 29, 3, 39);
        });
        dueFollows("30 from 29 of them", false, x -> {
            twoFull(x);
            x.drop(0, 29, 3, 39);
        });
        dueFollows("full of six nodes from one loop", true, x -> {
            x.put(0, 0, 0, 0);
            Edge.linkAll(x, 1);
        });
        dueFollows("a loop from full of six nodes without one", false, x -> {
            Edge.linkAll(x, 0);
            x.put(1, 45, 0, 45);
        });
        Edge.dueIdle("a full one from itself", 1, x -> Due.bit(x.follows(Edge.FULL, Edge.FULL)));
        Edge.dueIdle("an empty one from itself", 1, x -> Due.bit(x.follows(Edge.EMPTY, Edge.EMPTY)));
    }

    private static void twoFull(MergeGraphs x) {
        Edge.fillUp(x, 0, 30);
        x.copy(0, 1);
    }

    private static void followsRefuses() {
        for (int graph : Edge.NO_GRAPHS) {
            Edge.dueIdle("follows, first " + graph, Due.INDEX, x -> Due.bit(x.follows(graph, 5)));
            Edge.dueIdle("follows, second " + graph, Due.INDEX, x -> Due.bit(x.follows(5, graph)));
            Edge.dueIdle("follows, both " + graph, Due.INDEX, x -> Due.bit(x.follows(graph, graph)));
        }
    }

    private static void puttingAtTheEnds() {
        int[] ends = {0, 39, 40, 45};
        for (int term : ends) {
            for (int node : new int[] {40, 45}) {
                Edge.dueIdle("term " + term + " for node " + node, term, x -> {
                    x.put(0, term, 1, 7);
                    x.put(1, node, 1, 7);
                }, x -> x.putting(0, 1, node));
            }
        }
        Edge.dueIdle("the least of a full one", 0, x -> {
            Edge.fillUp(x, 0, 30);
            x.put(1, 45, 3, 39);
        }, x -> x.putting(0, 1, 45));
        Edge.Setup six = x -> {
            Edge.linkAll(x, 0);
            x.copy(0, 1);
        };
        Edge.dueIdle("six nodes for six: first", 40, six, x -> x.putting(0, 1, 40));
        Edge.dueIdle("six nodes for six: last", 45, six, x -> x.putting(0, 1, 45));
    }

    private static void puttingIsNoneIfItDoesNotFollow() {
        Edge.dueIdle("from an empty one", -1, x -> x.putting(Edge.EMPTY, 0, 40));
        Edge.dueIdle("from a full one", -1, x -> x.putting(Edge.FULL, 0, 40));
        Edge.dueIdle("a node that could, a fact that could not", -1, x -> {
            Due.fill(x, 0, "1 1 1");
            Due.fill(x, 1, "40 1 1; 2 2 2");
        }, x -> x.putting(0, 1, 40));
        Edge.dueIdle("one node could, another could not", -1, x -> {
            Due.fill(x, 0, "1 1 1");
            Due.fill(x, 1, "40 1 1; 45 2 2");
        }, x -> x.putting(0, 1, 40));
    }

    private static void puttingIsNoneIfNoNodeOfTheSecond() {
        Edge.Setup follows = x -> {
            Due.fill(x, 0, "1 1 41; 40 1 44; 2 2 2");
            Due.fill(x, 1, "1 1 42; 2 2 2");
        };
        Edge.dueIdle("its node", 41, follows, x -> x.putting(0, 1, 42));
        for (int node : new int[] {40, 41, 43, 44, 45}) {
            Edge.dueIdle("no node of the second: " + node, -1, follows, x -> x.putting(0, 1, node));
        }
        for (int node : NO_NODES) {
            Edge.dueIdle("no node at all: " + node, -1, follows, x -> x.putting(0, 1, node));
            Edge.dueIdle("no node at all, does not follow: " + node, -1, x -> x.putting(0, 1, node));
        }
        for (int node = 39; node < 47; node++) {
            int n = node;
            Edge.dueIdle("empty from full, node " + n, -1, x -> x.putting(Edge.FULL, Edge.EMPTY, n));
            Edge.dueIdle("empty from empty, node " + n, -1, x -> x.putting(Edge.EMPTY, Edge.EMPTY, n));
            Edge.dueIdle("full without nodes, node " + n, -1, x -> x.putting(Edge.FULL, Edge.FULL, n));
        }
    }

    private static void puttingRefuses() {
        for (int graph : Edge.NO_GRAPHS) {
            Edge.dueIdle("putting, first " + graph, Due.INDEX, x -> x.putting(graph, 0, 40));
            Edge.dueIdle("putting, second " + graph, Due.INDEX, x -> x.putting(0, graph, 40));
            Edge.dueIdle("putting, first, no node " + graph, Due.INDEX, x -> x.putting(graph, 0, MIN));
        }
    }

    private static void leanOfEmptyAndFull() {
        Edge.dueIdle("empty is lean", 1, x -> Due.bit(x.lean(Edge.EMPTY)));
        Edge.dueIdle("full without nodes is lean", 1, x -> Due.bit(x.lean(Edge.FULL)));
        Edge.dueIdle("one node's fact is lean", 1, x -> x.put(0, 45, 0, 45), x -> Due.bit(x.lean(0)));
        Edge.dueIdle("full of six nodes is lean", 1, x -> Edge.linkAll(x, 0), x -> Due.bit(x.lean(0)));
        Edge.dueIdle("29 names' facts and a node's that says no more", 0, FollowsEdgeTest::fullNotLean,
            x -> Due.bit(x.lean(0)));
        Edge.dueIdle("29 names' facts and a node's that says more", 1, x -> {
            Edge.fillUp(x, 0, 29);
            x.put(0, 45, 4, 39);
        }, x -> Due.bit(x.lean(0)));
        for (int node : new int[] {40, 45}) {
            Edge.dueIdle("node " + node + " says no more", 0, x -> {
                x.put(0, 1, 1, 39);
                x.put(0, 1, 1, node);
            }, x -> Due.bit(x.lean(0)));
        }
    }

    private static void fullNotLean(MergeGraphs x) {
        Edge.fillUp(x, 0, 29);
        x.put(0, 45, 3, 39);
    }

    private static void leanRefuses() {
        for (int graph : Edge.NO_GRAPHS) {
            Edge.dueIdle("lean, graph " + graph, Due.INDEX, x -> Due.bit(x.lean(graph)));
        }
    }

    private static void coreOfEmptyAndFull() {
        Edge.dueIdle("core of an empty one", 0, x -> x.core(Edge.EMPTY));
        Edge.dueIdle("core of a full one without nodes", 0, x -> x.core(Edge.FULL));
        Edge.dueIdle("core of a full one of six nodes", 0, x -> Edge.linkAll(x, 0), x -> x.core(0));
        Edge.dueIdle("core of a lean one", 0, x -> x.core(0));
        Edge.dueLike("30 become 29", 1, FollowsEdgeTest::fullNotLean, x -> x.core(0), x -> Edge.fillUp(x, 0, 29));
        Edge.dueLike("30 become five", 1, x -> {
            for (int v = 0; v < 5; v++) {
                for (int node = 40; node < 46; node++) {
                    x.put(0, node, v, 0);
                }
            }
        }, x -> x.core(0), x -> Due.fill(x, 0, "40 0 0; 40 1 0; 40 2 0; 40 3 0; 40 4 0"));
        Edge.dueLike("six nodes go at once", 1, x -> Due.fill(x, 5, "0 0 0; 40 0 41; 42 0 43; 44 0 45"),
            x -> x.core(5), x -> x.put(5, 0, 0, 0));
        // More is not to be had: where no node is left in the end, the first row puts names for all at once.
        Edge.dueLike("five times, a node each", 5, x ->
            Due.fill(x, 0, "40 0 41; 42 0 45; 43 0 42; 44 0 41; 44 0 45; 45 0 45"), x -> x.core(0), x -> x.put(0, 45, 0, 45));
    }

    private static void coreRefuses() {
        for (int graph : Edge.NO_GRAPHS) {
            Edge.dueIdle("core, graph " + graph, Due.INDEX, x -> x.core(graph));
        }
    }
}
