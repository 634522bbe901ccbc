/** Boundary cases of promises 1 to 6: a new object, put, drop, copy, size, fact. */
public final class FactsEdgeTest {
    private static final int MIN = Integer.MIN_VALUE;
    private static final int MAX = Integer.MAX_VALUE;
    /** 4096 (for verbs 64) times the last two wraps round to 0; 64 would carry over into the place before. */
    private static final int[] NO_TERMS = {-1, 46, 63, 64, MIN, MAX, 1 << 20, -(1 << 20)};
    private static final int[] NO_VERBS = {-1, 40, 45, 63, 64, MIN, MAX, 1 << 26, -(1 << 26)};
    private static final int[] ENDS_OF_TERMS = {0, 39, 40, 45};
    private static final int[] ENDS_OF_VERBS = {0, 39};

    private FactsEdgeTest() {
    }

    public static void main(String[] args) {
        newObjectHasNothing();
        putAnswers0IfItIsThere();
        putAnswersNoneIfThereAre30();
        putRefusesWrongTerms();
        dropAnswers0IfItWasNotThere();
        dropRefusesWrongTerms();
        dropLeavesRoom();
        copyOfEmptyAndFull();
        copyRefuses();
        sizeOfEmptyAndFull();
        sizeRefusesNoSuchWhat();
        factOfEmptyAndFull();
        factRefusesNoSuchFact();
        Due.end("FactsEdgeTest");
    }

    private static void nothing(MergeGraphs x) {
        // A new object is what is wanted.
    }

    private static void newObjectHasNothing() {
        Due.dueText("all graphs empty, no clashes, no change", "[] [] [] [] [] [] clashes goes comes ",
            Edge.stateOf(new MergeGraphs()));
        Edge.dueIdle("no clash 0", Due.INDEX, FactsEdgeTest::nothing, x -> x.clash(0, 0));
        Edge.dueIdle("no clash 0, side", Due.INDEX, FactsEdgeTest::nothing, x -> x.clash(0, 1));
        Edge.dueIdle("nothing goes", -1, FactsEdgeTest::nothing, x -> x.part(0, 0));
        Edge.dueIdle("nothing comes", -1, FactsEdgeTest::nothing, x -> x.part(1, 0));
        MergeGraphs used = Edge.made(Edge::rich);
        Due.dueText("used objects leave new ones alone", "[] [] [] [] [] [] clashes goes comes ",
            Edge.stateOf(new MergeGraphs()));
        Due.dueText("and new ones leave them alone", Edge.stateOf(Edge.made(Edge::rich)), Edge.stateOf(used));
    }

    private static void putAnswers0IfItIsThere() {
        Edge.dueIdle("the only fact", 0, x -> x.put(3, 45, 39, 45), x -> x.put(3, 45, 39, 45));
        Edge.dueIdle("fact number 0", 0, x -> x.put(3, 0, 0, 0), x -> x.put(3, 0, 0, 0));
        Edge.dueIdle("the first of 30", 0, x -> x.put(Edge.FULL, 0, 3, 39));
        Edge.dueIdle("the last of 30", 0, x -> x.put(Edge.FULL, 29, 3, 39));
        Edge.dueGood("0 0 0 is not there at first", 1, FactsEdgeTest::nothing, x -> x.put(0, 0, 0, 0));
        Edge.dueGood("the other way round is another one", 1, x -> x.put(0, 1, 2, 3), x -> x.put(0, 3, 2, 1));
    }

    private static void putAnswersNoneIfThereAre30() {
        Edge.dueIdle("before the first of 30", -1, x -> x.put(Edge.FULL, 0, 0, 0));
        Edge.dueIdle("among the 30", -1, x -> x.put(Edge.FULL, 15, 3, 38));
        Edge.dueIdle("behind the last of 30", -1, x -> x.put(Edge.FULL, 45, 39, 45));
        int[] subjects = {0, 15, 45};
        for (int s : subjects) {
            Edge.dueGood("the 30th, subject " + s, 1, x -> Edge.fillUp(x, 0, 29), x -> x.put(0, s, 0, 0));
            Edge.dueGood("30 then, subject " + s, 30, x -> {
                Edge.fillUp(x, 0, 29);
                x.put(0, s, 0, 0);
            }, x -> x.size(0, 0));
        }
        Edge.dueIdle("a wrong term among 30 throws", Due.ARGUMENT, x -> x.put(Edge.FULL, 46, 0, 0));
        Edge.dueGood("other graphs have room", 1, Edge::rich, x -> x.put(Edge.EMPTY, 0, 0, 0));
    }

    private static void putRefusesWrongTerms() {
        for (int wrong : NO_TERMS) {
            Edge.dueIdle("put, s " + wrong, Due.ARGUMENT, x -> x.put(5, wrong, 0, 0));
            Edge.dueIdle("put, o " + wrong, Due.ARGUMENT, x -> x.put(5, 0, 0, wrong));
        }
        for (int wrong : NO_VERBS) {
            Edge.dueIdle("put, v " + wrong, Due.ARGUMENT, x -> x.put(5, 0, wrong, 0));
        }
        Edge.dueIdle("put, all wrong", Due.ARGUMENT, x -> x.put(5, -1, -1, -1));
        for (int s : ENDS_OF_TERMS) {
            for (int v : ENDS_OF_VERBS) {
                for (int o : ENDS_OF_TERMS) {
                    dueGoodFact(s, v, o);
                }
            }
        }
    }

    private static void dueGoodFact(int s, int v, int o) {
        MergeGraphs x = new MergeGraphs();
        String what = s + " " + v + " " + o;
        Due.due("put " + what, 1, () -> x.put(5, s, v, o));
        Due.due("number of " + what, Due.number(s, v, o), () -> x.fact(5, 0));
        Due.due("drop " + what, 1, () -> x.drop(5, s, v, o));
        Due.due("empty without " + what, 0, () -> x.size(5, 0));
    }

    private static void dropAnswers0IfItWasNotThere() {
        Edge.dueIdle("drop in an empty one", 0, x -> x.drop(Edge.EMPTY, 0, 0, 0));
        Edge.dueIdle("drop before the first of 30", 0, x -> x.drop(Edge.FULL, 0, 0, 0));
        Edge.dueIdle("drop among 30", 0, x -> x.drop(Edge.FULL, 15, 3, 38));
        Edge.dueIdle("drop behind the last of 30", 0, x -> x.drop(Edge.FULL, 45, 39, 45));
        Edge.dueIdle("drop of what another graph has", 0, x -> x.drop(0, 5, 5, 5));
        Edge.dueIdle("drop twice", 0, x -> {
            x.put(0, 1, 1, 1);
            x.put(0, 2, 2, 2);
            x.drop(0, 2, 2, 2);
        }, x -> x.drop(0, 2, 2, 2));
    }

    private static void dropRefusesWrongTerms() {
        for (int wrong : NO_TERMS) {
            Edge.dueIdle("drop, s " + wrong, Due.ARGUMENT, FactsEdgeTest::factZero, x -> x.drop(5, wrong, 0, 0));
            Edge.dueIdle("drop, o " + wrong, Due.ARGUMENT, FactsEdgeTest::factZero, x -> x.drop(5, 0, 0, wrong));
        }
        for (int wrong : NO_VERBS) {
            Edge.dueIdle("drop, v " + wrong, Due.ARGUMENT, FactsEdgeTest::factZero, x -> x.drop(5, 0, wrong, 0));
        }
        Edge.dueIdle("drop in an empty one throws too", Due.ARGUMENT, x -> x.drop(Edge.EMPTY, 0, 40, 0));
    }

    private static void factZero(MergeGraphs x) {
        Due.fill(x, 5, "0 0 0; 0 1 0; 1 0 0");
    }

    private static void dropLeavesRoom() {
        int[] places = {0, 15, 29};
        for (int s : places) {
            MergeGraphs x = Edge.made(Edge::rich);
            Due.due("drop of 30, subject " + s, 1, () -> x.drop(Edge.FULL, s, 3, 39));
            Due.due("29 then", 29, () -> x.size(Edge.FULL, 0));
            Due.due("no 30th then", Due.INDEX, () -> x.fact(Edge.FULL, 29));
            Due.due("room for one", 1, () -> x.put(Edge.FULL, 45, 0, 0));
            Due.due("and no more", -1, () -> x.put(Edge.FULL, 45, 1, 0));
        }
        Edge.dueLike("the last one goes", 1, x -> x.put(0, 45, 39, 45), x -> x.drop(0, 45, 39, 45), FactsEdgeTest::nothing);
    }

    private static void copyOfEmptyAndFull() {
        Edge.dueLike("empty over full", 0, x -> Edge.fillUp(x, 5, 30), x -> x.copy(0, 5), FactsEdgeTest::nothing);
        Edge.dueLike("full over empty", 30, x -> Edge.fillUp(x, 0, 30), x -> x.copy(0, 5), x -> {
            Edge.fillUp(x, 0, 30);
            Edge.fillUp(x, 5, 30);
        });
        Edge.dueIdle("full to itself", 30, x -> x.copy(Edge.FULL, Edge.FULL));
        Edge.dueIdle("empty to itself", 0, x -> x.copy(Edge.EMPTY, Edge.EMPTY));
        Edge.dueIdle("empty to empty", 0, FactsEdgeTest::nothing, x -> x.copy(5, 0));
        MergeGraphs x = Edge.made(made -> Edge.fillUp(made, 0, 30));
        x.copy(0, 5);
        Due.due("the copy is full too", -1, () -> x.put(5, 0, 0, 0));
        x.drop(0, 0, 3, 39);
        Due.due("what it comes from changes alone", 30, () -> x.size(5, 0));
    }

    private static void copyRefuses() {
        for (int graph : Edge.NO_GRAPHS) {
            Edge.dueIdle("copy from " + graph, Due.INDEX, x -> x.copy(graph, 0));
            Edge.dueIdle("copy to " + graph, Due.INDEX, x -> x.copy(0, graph));
            Edge.dueIdle("copy from and to " + graph, Due.INDEX, x -> x.copy(graph, graph));
        }
    }

    private static void sizeOfEmptyAndFull() {
        dueSizes("empty", 0, 0, 0, FactsEdgeTest::nothing);
        dueSizes("one fact of one name", 1, 0, 1, x -> x.put(0, 0, 39, 0));
        dueSizes("one fact of one node", 1, 1, 1, x -> x.put(0, 45, 39, 45));
        dueSizes("full, no node", 30, 0, 31, x -> Edge.fillUp(x, 0, 30));
        dueSizes("full, nodes alone", 30, 6, 6, x -> Edge.linkAll(x, 0));
        dueSizes("full, all terms there are", 30, 6, 46, x -> {
            for (int i = 0; i < 30; i++) {
                x.put(0, i, 0, 16 + i);
            }
        });
        dueSizes("a node whose last fact went", 1, 1, 2, x -> {
            Due.fill(x, 0, "1 1 40; 1 1 45");
            x.drop(0, 1, 1, 45);
        });
    }

    private static void dueSizes(String what, int facts, int nodes, int terms, Edge.Setup setup) {
        Edge.dueIdle(what + ": facts", facts, setup, x -> x.size(0, 0));
        Edge.dueIdle(what + ": nodes", nodes, setup, x -> x.size(0, 1));
        Edge.dueIdle(what + ": terms", terms, setup, x -> x.size(0, 2));
    }

    private static void sizeRefusesNoSuchWhat() {
        for (int what : new int[] {-1, 3, MIN, MAX}) {
            Edge.dueIdle("size of an empty one, what " + what, Due.INDEX, x -> x.size(Edge.EMPTY, what));
            Edge.dueIdle("size of a full one, what " + what, Due.INDEX, x -> x.size(Edge.FULL, what));
        }
        for (int graph : Edge.NO_GRAPHS) {
            for (int what = 0; what < 3; what++) {
                int w = what;
                Edge.dueIdle("size " + what + " of graph " + graph, Due.INDEX, x -> x.size(graph, w));
            }
        }
    }

    private static void factOfEmptyAndFull() {
        Edge.dueIdle("fact 0 of one", 0, x -> x.put(0, 0, 0, 0), x -> x.fact(0, 0));
        Edge.dueIdle("fact 0 of 30", Due.number(0, 3, 39), x -> x.fact(Edge.FULL, 0));
        Edge.dueIdle("fact 29 of 30", Due.number(29, 3, 39), x -> x.fact(Edge.FULL, 29));
    }

    private static void factRefusesNoSuchFact() {
        for (int k : new int[] {-1, 0, 1, 30, MIN, MAX}) {
            Edge.dueIdle("fact of an empty one, k " + k, Due.INDEX, x -> x.fact(Edge.EMPTY, k));
        }
        for (int k : new int[] {-1, 1, 2, MIN, MAX}) {
            Edge.dueIdle("fact of one, k " + k, Due.INDEX, x -> x.put(0, 1, 1, 1), x -> x.fact(0, k));
        }
        for (int k : new int[] {-1, 30, 31, MIN, MAX}) {
            Edge.dueIdle("fact of 30, k " + k, Due.INDEX, x -> x.fact(Edge.FULL, k));
        }
        for (int graph : Edge.NO_GRAPHS) {
            Edge.dueIdle("fact of graph " + graph, Due.INDEX, x -> x.fact(graph, 0));
        }
    }
}
