/** Boundary cases of promises 7 to 9: alike, image, form. */
public final class AlikeEdgeTest {
    private static final int MIN = Integer.MIN_VALUE;
    private static final int MAX = Integer.MAX_VALUE;
    private static final int[] NO_NODES = {-1, 0, 1, 2, 39, 46, MIN, MAX};

    private AlikeEdgeTest() {
    }

    public static void main(String[] args) {
        alikeOfEmptyAndFull();
        alikeRefuses();
        imageOfTheLastNodes();
        imageIsNoneIfNotAlike();
        imageIsNoneIfNoNodeOfTheFirst();
        imageRefuses();
        formOfEmptyAndFull();
        formRefusesNoSuchFact();
        Due.end("AlikeEdgeTest");
    }

    private static void dueAlike(String what, boolean want, Edge.Setup setup) {
        Edge.dueIdle(what, Due.bit(want), setup, x -> Due.bit(x.alike(0, 1)));
        Edge.dueIdle(what + ", the other way round", Due.bit(want), setup, x -> Due.bit(x.alike(1, 0)));
    }

    private static void alikeOfEmptyAndFull() {
        dueAlike("empty ones", true, x -> x.put(2, 0, 0, 0));
        dueAlike("an empty one and one fact without nodes", false, x -> x.put(1, 0, 0, 0));
        dueAlike("an empty one and one fact of nodes", false, x -> x.put(1, 40, 0, 40));
        dueAlike("an empty one and a full one", false, x -> Edge.fillUp(x, 1, 30));
        dueAlike("full ones without nodes", true, AlikeEdgeTest::twoFull);
        dueAlike("full ones but for the last fact", false, x -> {
            twoFull(x);
            x.drop(1, 29, 3, 39);
            x.put(1, 29, 3, 38);
        });
        dueAlike("30 facts and 29 of them", false, x -> {
            twoFull(x);
            x.drop(1, 29, 3, 39);
        });
        dueAlike("full ones of all six nodes", true, x -> {
            Edge.linkAll(x, 0);
            x.copy(0, 1);
        });
        dueAlike("a full one of nodes and one without", false, x -> {
            Edge.linkAll(x, 0);
            Edge.fillUp(x, 1, 30);
        });
        dueAlike("as many facts, a node less", false, x -> {
            Due.fill(x, 0, "1 1 40; 1 1 41; 2 2 2");
            Due.fill(x, 1, "1 1 40; 1 1 3; 2 2 2");
        });
        Edge.dueIdle("a full one and itself", 1, x -> Due.bit(x.alike(Edge.FULL, Edge.FULL)));
        Edge.dueIdle("an empty one and itself", 1, x -> Due.bit(x.alike(Edge.EMPTY, Edge.EMPTY)));
    }

    private static void twoFull(MergeGraphs x) {
        Edge.fillUp(x, 0, 30);
        x.copy(0, 1);
    }

    private static void alikeRefuses() {
        for (int graph : Edge.NO_GRAPHS) {
            Edge.dueIdle("alike, first " + graph, Due.INDEX, x -> Due.bit(x.alike(graph, 5)));
            Edge.dueIdle("alike, second " + graph, Due.INDEX, x -> Due.bit(x.alike(5, graph)));
            Edge.dueIdle("alike, both " + graph, Due.INDEX, x -> Due.bit(x.alike(graph, graph)));
        }
    }

    private static void imageOfTheLastNodes() {
        Edge.Setup ends = x -> {
            Due.fill(x, 0, "1 1 40; 2 1 45");
            Due.fill(x, 1, "1 1 45; 2 1 40");
        };
        Edge.dueIdle("image of 40", 45, ends, x -> x.image(0, 1, 40));
        Edge.dueIdle("image of 45", 40, ends, x -> x.image(0, 1, 45));
        for (int node = 40; node < 46; node++) {
            int n = node;
            Edge.dueIdle("the first row of all, node " + n, n, x -> {
                Edge.linkAll(x, 0);
                x.copy(0, 1);
            }, x -> x.image(0, 1, n));
        }
        Edge.dueIdle("a graph's own image", 40, x -> x.image(0, 0, 40));
    }

    private static void imageIsNoneIfNotAlike() {
        Edge.dueIdle("a fact more", -1, x -> x.image(0, 2, 40));
        Edge.dueIdle("a fact less", -1, x -> x.image(2, 0, 40));
        Edge.dueIdle("nothing in the second", -1, x -> x.image(0, Edge.EMPTY, 40));
        Edge.dueIdle("a full one in the second", -1, x -> x.image(0, Edge.FULL, 40));
        Edge.dueIdle("another name alone", -1, x -> {
            Due.fill(x, 0, "1 1 40; 2 2 2");
            Due.fill(x, 1, "1 1 40; 2 2 3");
        }, x -> x.image(0, 1, 40));
        Edge.dueIdle("two nodes for one", -1, x -> {
            Due.fill(x, 0, "40 1 41");
            Due.fill(x, 1, "40 1 40");
        }, x -> x.image(0, 1, 40));
    }

    private static void imageIsNoneIfNoNodeOfTheFirst() {
        Edge.Setup alike = x -> {
            Due.fill(x, 0, "1 1 41; 2 1 44");
            Due.fill(x, 1, "1 1 40; 2 1 45");
        };
        Edge.dueIdle("a node of it", 40, alike, x -> x.image(0, 1, 41));
        Edge.dueIdle("its last node", 45, alike, x -> x.image(0, 1, 44));
        for (int node : new int[] {40, 42, 43, 45}) {
            Edge.dueIdle("no node of the first: " + node, -1, alike, x -> x.image(0, 1, node));
        }
        for (int node : NO_NODES) {
            Edge.dueIdle("no node at all: " + node, -1, alike, x -> x.image(0, 1, node));
            Edge.dueIdle("no node at all, not alike: " + node, -1, x -> x.image(0, 1, node));
        }
        for (int node = 39; node < 47; node++) {
            int n = node;
            Edge.dueIdle("empty ones, node " + n, -1, x -> x.put(2, 40, 0, 45), x -> x.image(0, 1, n));
            Edge.dueIdle("a full one without nodes, node " + n, -1, x -> x.image(Edge.FULL, Edge.FULL, n));
        }
    }

    private static void imageRefuses() {
        for (int graph : Edge.NO_GRAPHS) {
            Edge.dueIdle("image, first " + graph, Due.INDEX, x -> x.image(graph, 0, 40));
            Edge.dueIdle("image, second " + graph, Due.INDEX, x -> x.image(0, graph, 40));
            Edge.dueIdle("image, second, no node " + graph, Due.INDEX, x -> x.image(0, graph, MAX));
        }
    }

    private static void formOfEmptyAndFull() {
        Edge.dueIdle("form of one fact without nodes", 0, x -> x.put(0, 0, 0, 0), x -> x.form(0, 0));
        Edge.dueIdle("form of one node", Due.number(40, 39, 40), x -> x.put(0, 45, 39, 45), x -> x.form(0, 0));
        for (int k = 0; k < 30; k++) {
            int i = k;
            Edge.dueIdle("a full one without nodes is its form, k " + k, Due.number(k, 3, 39), x -> x.form(Edge.FULL, i));
        }
        Edge.dueIdle("full, six nodes: first", Due.number(40, 0, 41), x -> Edge.linkAll(x, 0), x -> x.form(0, 0));
        Edge.dueIdle("full, six nodes: last", Due.number(45, 0, 44), x -> Edge.linkAll(x, 0), x -> x.form(0, 29));
        Edge.Setup turned = x -> Due.fill(x, 0, "0 0 45; 1 0 44; 2 0 43; 3 0 42; 4 0 41; 5 0 40");
        for (int k = 0; k < 6; k++) {
            int i = k;
            Edge.dueIdle("six nodes turned round, k " + k, Due.number(k, 0, 40 + k), turned, x -> x.form(0, i));
        }
    }

    private static void formRefusesNoSuchFact() {
        for (int k : new int[] {-1, 0, 1, 30, MIN, MAX}) {
            Edge.dueIdle("form of an empty one, k " + k, Due.INDEX, x -> x.form(Edge.EMPTY, k));
        }
        for (int k : new int[] {-1, 3, 4, 30, MIN, MAX}) {
            Edge.dueIdle("form of three, k " + k, Due.INDEX, x -> x.form(0, k));
        }
        for (int k : new int[] {-1, 30, 31, MIN, MAX}) {
            Edge.dueIdle("form of 30, k " + k, Due.INDEX, x -> x.form(Edge.FULL, k));
            Edge.dueIdle("form of 30 asked for before, k " + k, Due.INDEX, x -> {
                Edge.fillUp(x, 0, 30);
                x.form(0, 29);
            }, x -> x.form(0, k));
        }
        for (int graph : Edge.NO_GRAPHS) {
            Edge.dueIdle("form of graph " + graph, Due.INDEX, x -> x.form(graph, 0));
        }
    }
}
