/** Promises 1 to 6: a new object, put, drop, copy, size, fact. */
public final class FactsTest {
    private static final int[] BAD_GRAPHS = {-1, 6, Integer.MIN_VALUE, Integer.MAX_VALUE};

    private FactsTest() {
    }

    public static void main(String[] args) {
        newObject();
        putting();
        dropping();
        copying();
        sizes();
        facts();
        Due.end("FactsTest");
    }

    private static void newObject() {
        MergeGraphs x = new MergeGraphs();
        for (int graph = 0; graph < 6; graph++) {
            int g = graph;
            for (int what = 0; what < 3; what++) {
                int w = what;
                Due.due("new: size", 0, () -> x.size(g, w));
            }
            Due.due("new: fact", Due.INDEX, () -> x.fact(g, 0));
            Due.due("new: form", Due.INDEX, () -> x.form(g, 0));
            Due.due("new: apply, an empty change", 1, () -> x.apply(g, false));
            Due.due("new: apply back, an empty change", 1, () -> x.apply(g, true));
        }
        Due.due("new: clash", Due.INDEX, () -> x.clash(0, 0));
        Due.due("new: part goes", -1, () -> x.part(0, 0));
        Due.due("new: part comes", -1, () -> x.part(1, 0));
        x.put(0, 1, 1, 1);
        MergeGraphs y = new MergeGraphs();
        Due.due("objects share nothing", 0, () -> y.size(0, 0));
    }

    private static void putting() {
        MergeGraphs x = new MergeGraphs();
        Due.due("put", 1, () -> x.put(0, 45, 39, 45));
        Due.due("put, least", 1, () -> x.put(0, 0, 0, 0));
        Due.due("put again", 0, () -> x.put(0, 45, 39, 45));
        Due.dueText("put sorts", "0 0 0; 45 39 45;", Due.facts(x, 0));
        Due.dueText("put in one graph only", "", Due.facts(x, 1));
        int[][] bad = {{-1, 0, 0}, {46, 0, 0}, {0, -1, 0}, {0, 40, 0}, {0, 0, -1}, {0, 0, 46},
            {Integer.MIN_VALUE, 0, 0}, {0, Integer.MAX_VALUE, 0}, {0, 0, Integer.MAX_VALUE}};
        for (int[] b : bad) {
            Due.due("put, wrong term", Due.ARGUMENT, () -> x.put(5, b[0], b[1], b[2]));
            Due.due("drop, wrong term", Due.ARGUMENT, () -> x.drop(5, b[0], b[1], b[2]));
        }
        for (int graph : BAD_GRAPHS) {
            Due.due("put, no such graph", Due.INDEX, () -> x.put(graph, 0, 0, 0));
            Due.due("put, no such graph comes first", Due.INDEX, () -> x.put(graph, 46, 40, -1));
        }
        for (int i = 2; i < 30; i++) {
            int s = 40 - i;
            Due.due("put up to 30", 1, () -> x.put(0, s, 3, 41));
        }
        Due.due("put a 31st", -1, () -> x.put(0, 1, 1, 1));
        Due.due("put one that is there among 30", 0, () -> x.put(0, 0, 0, 0));
        Due.due("put, wrong term among 30", Due.ARGUMENT, () -> x.put(0, 0, 0, 46));
        Due.due("30 stay", 30, () -> x.size(0, 0));
        Due.due("first stays", 0, () -> x.fact(0, 0));
        Due.due("last stays", Due.number(45, 39, 45), () -> x.fact(0, 29));
    }

    private static void dropping() {
        MergeGraphs x = new MergeGraphs();
        Due.fill(x, 2, "1 1 1; 2 2 2; 3 3 3; 40 4 41");
        Due.due("drop", 1, () -> x.drop(2, 2, 2, 2));
        Due.due("drop again", 0, () -> x.drop(2, 2, 2, 2));
        Due.due("drop, never there", 0, () -> x.drop(2, 40, 4, 40));
        Due.due("drop in an empty one", 0, () -> x.drop(3, 1, 1, 1));
        Due.dueText("others stay", "1 1 1; 3 3 3; 40 4 41;", Due.facts(x, 2));
        Due.due("drop last", 1, () -> x.drop(2, 40, 4, 41));
        Due.due("drop first", 1, () -> x.drop(2, 1, 1, 1));
        Due.dueText("one stays", "3 3 3;", Due.facts(x, 2));
        for (int graph : BAD_GRAPHS) {
            Due.due("drop, no such graph", Due.INDEX, () -> x.drop(graph, 0, 0, 0));
            Due.due("drop, no such graph comes first", Due.INDEX, () -> x.drop(graph, 0, 40, 0));
        }
        for (int i = 0; i < 30; i++) {
            x.put(4, i, 0, 0);
        }
        Due.due("drop of 30", 1, () -> x.drop(4, 29, 0, 0));
        Due.due("room again", 1, () -> x.put(4, 39, 0, 0));
        Due.due("and no more", -1, () -> x.put(4, 38, 0, 0));
    }

    private static void copying() {
        MergeGraphs x = new MergeGraphs();
        Due.fill(x, 0, "1 1 1; 40 2 41; 41 2 40");
        Due.fill(x, 1, "5 5 5");
        Due.due("copy", 3, () -> x.copy(0, 1));
        Due.dueText("copied", "1 1 1; 40 2 41; 41 2 40;", Due.facts(x, 1));
        x.put(0, 7, 7, 7);
        Due.due("a copy stands alone", 3, () -> x.size(1, 0));
        x.drop(1, 1, 1, 1);
        Due.due("and what it comes from too", 4, () -> x.size(0, 0));
        Due.due("copy to itself", 4, () -> x.copy(0, 0));
        Due.due("copy to itself changes nothing", 4, () -> x.size(0, 0));
        Due.due("copy of an empty one", 0, () -> x.copy(5, 0));
        Due.due("it is empty", 0, () -> x.size(0, 0));
        for (int graph : BAD_GRAPHS) {
            Due.due("copy, no such graph", Due.INDEX, () -> x.copy(graph, 1));
            Due.due("copy, to no such graph", Due.INDEX, () -> x.copy(1, graph));
        }
        Due.dueText("nothing changed", "40 2 41; 41 2 40;", Due.facts(x, 1));
    }

    private static void sizes() {
        MergeGraphs x = new MergeGraphs();
        Due.fill(x, 0, "1 30 2; 2 30 1; 1 31 40; 40 31 40; 45 32 39");
        Due.due("facts", 5, () -> x.size(0, 0));
        Due.due("nodes", 2, () -> x.size(0, 1));
        Due.due("terms, without verbs", 5, () -> x.size(0, 2));
        for (int what : new int[] {-1, 3, Integer.MIN_VALUE, Integer.MAX_VALUE}) {
            Due.due("size, no such what", Due.INDEX, () -> x.size(0, what));
        }
        for (int graph : BAD_GRAPHS) {
            Due.due("size, no such graph", Due.INDEX, () -> x.size(graph, 0));
        }
        for (int i = 0; i < 23; i++) {
            x.put(1, 2 * i, 0, 2 * i + 1);
        }
        Due.due("all nodes", 6, () -> x.size(1, 1));
        Due.due("all terms", 46, () -> x.size(1, 2));
    }

    private static void facts() {
        MergeGraphs x = new MergeGraphs();
        Due.fill(x, 0, "41 0 0; 0 39 45; 0 38 0; 0 38 40");
        Due.due("first", Due.number(0, 38, 0), () -> x.fact(0, 0));
        Due.due("by object", Due.number(0, 38, 40), () -> x.fact(0, 1));
        Due.due("by verb", Due.number(0, 39, 45), () -> x.fact(0, 2));
        Due.due("by subject", Due.number(41, 0, 0), () -> x.fact(0, 3));
        for (int k : new int[] {-1, 4, 30, Integer.MIN_VALUE, Integer.MAX_VALUE}) {
            Due.due("fact, no such fact", Due.INDEX, () -> x.fact(0, k));
        }
        for (int graph : BAD_GRAPHS) {
            Due.due("fact, no such graph", Due.INDEX, () -> x.fact(graph, 0));
        }
    }
}
