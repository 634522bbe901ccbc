/** Boundary cases of promises 17 to 19: change, part, apply. */
public final class ChangeEdgeTest {
    private static final int MIN = Integer.MIN_VALUE;
    private static final int MAX = Integer.MAX_VALUE;

    private ChangeEdgeTest() {
    }

    public static void main(String[] args) {
        changeOfEmptyAndFull();
        changeRefuses();
        partAtTheEnds();
        partIsNoneIfThereAreNotSoMany();
        partRefuses();
        applyOfEmptyAndFull();
        applyIs0IfItCannotBe();
        applyIs0IfMoreThan30();
        applyRefuses();
        Due.end("ChangeEdgeTest");
    }

    private static void otherFull(MergeGraphs x, int graph) {
        for (int k = 0; k < 30; k++) {
            x.put(graph, k, 4, 39);
        }
    }

    /** Graphs 0 and 1 are full and share nothing; the change between them is at hand. */
    private static void allChanges(MergeGraphs x) {
        Edge.fillUp(x, 0, 30);
        otherFull(x, 1);
        x.change(0, 1);
    }

    private static void changeOfEmptyAndFull() {
        Edge.dueGood("empty to empty", 0, Edge::rich, x -> x.change(Edge.EMPTY, Edge.EMPTY));
        Edge.dueGood("full to itself", 0, Edge::rich, x -> x.change(Edge.FULL, Edge.FULL));
        Edge.dueGood("full to empty", 30, Edge::rich, x -> x.change(Edge.FULL, Edge.EMPTY));
        Edge.dueGood("empty to full", 30, Edge::rich, x -> x.change(Edge.EMPTY, Edge.FULL));
        Edge.dueGood("all goes, all comes", 60, ChangeEdgeTest::allChanges, x -> x.change(1, 0));
        Edge.dueGood("no change takes the place of one", -1, x -> {
            Edge.rich(x);
            x.change(0, 0);
        }, x -> x.part(0, 0));
        Edge.dueIdle("the same change once more", 3, x -> x.change(0, 1));
        Edge.dueGood("full ones but for one fact", 2, x -> {
            Edge.fillUp(x, 0, 30);
            x.copy(0, 1);
            x.drop(1, 29, 3, 39);
            x.put(1, 0, 0, 0);
        }, x -> x.change(0, 1));
    }

    private static void changeRefuses() {
        for (int graph : Edge.NO_GRAPHS) {
            Edge.dueIdle("change, first " + graph, Due.INDEX, x -> x.change(graph, 4));
            Edge.dueIdle("change, second " + graph, Due.INDEX, x -> x.change(4, graph));
            Edge.dueIdle("change, both " + graph, Due.INDEX, x -> x.change(graph, graph));
            Edge.dueGood("the change before is put on still", 1, x -> {
                Edge.rich(x);
                Due.answerOf(() -> x.change(2, graph));
            }, x -> x.apply(0, false));
        }
    }

    private static void partAtTheEnds() {
        Edge.dueIdle("the first that goes", Due.number(1, 1, 2), x -> x.part(0, 0));
        Edge.dueIdle("the last that goes", Due.number(40, 2, 41), x -> x.part(0, 1));
        Edge.dueIdle("the only one that comes", Due.number(5, 5, 5), x -> x.part(1, 0));
        Edge.dueGood("fact number 0 goes", 0, x -> {
            x.put(0, 0, 0, 0);
            x.change(0, 1);
        }, x -> x.part(0, 0));
        for (int k = 0; k < 30; k++) {
            int i = k;
            Edge.dueGood("all goes, k " + k, Due.number(k, 3, 39), ChangeEdgeTest::allChanges, x -> x.part(0, i));
            Edge.dueGood("all comes, k " + k, Due.number(k, 4, 39), ChangeEdgeTest::allChanges, x -> x.part(1, i));
        }
    }

    private static void partIsNoneIfThereAreNotSoMany() {
        for (int k : new int[] {2, 3, 29, 30, MAX}) {
            Edge.dueIdle("two go, k " + k, -1, x -> x.part(0, k));
        }
        for (int k : new int[] {1, 2, 29, 30, MAX}) {
            Edge.dueIdle("one comes, k " + k, -1, x -> x.part(1, k));
        }
        for (int k : new int[] {30, 31, 60, MAX}) {
            Edge.dueIdle("30 go, k " + k, -1, ChangeEdgeTest::allChanges, x -> x.part(0, k));
            Edge.dueIdle("30 come, k " + k, -1, ChangeEdgeTest::allChanges, x -> x.part(1, k));
        }
        for (int k : new int[] {0, 1, 30, MAX}) {
            Edge.dueIdle("no change yet, goes, k " + k, -1, x -> x.put(0, 1, 1, 1), x -> x.part(0, k));
            Edge.dueIdle("no change yet, comes, k " + k, -1, x -> x.put(0, 1, 1, 1), x -> x.part(1, k));
        }
    }

    private static void partRefuses() {
        for (int k : new int[] {-1, -2, -30, MIN}) {
            Edge.dueIdle("part goes, k " + k, Due.INDEX, x -> x.part(0, k));
            Edge.dueIdle("part comes, k " + k, Due.INDEX, x -> x.part(1, k));
            Edge.dueIdle("part, no change yet, k " + k, Due.INDEX, x -> x.put(0, 1, 1, 1), x -> x.part(0, k));
        }
        for (int what : new int[] {-1, 2, 3, MIN, MAX}) {
            Edge.dueIdle("part, what " + what, Due.INDEX, x -> x.part(what, 0));
            Edge.dueIdle("part, not so many, what " + what, Due.INDEX, x -> x.part(what, MAX));
            Edge.dueIdle("part, k below 0, what " + what, Due.INDEX, x -> x.part(what, -1));
            Edge.dueIdle("part, no change yet, what " + what, Due.INDEX, x -> x.put(0, 1, 1, 1), x -> x.part(what, 0));
        }
    }

    private static void applyOfEmptyAndFull() {
        for (int to = 0; to < 2; to++) {
            boolean back = to == 1;
            Edge.dueIdle("no change yet, on an empty one", 1, x -> x.put(0, 1, 1, 1), x -> x.apply(5, back));
            Edge.dueIdle("no change yet, on a full one", 1, x -> Edge.fillUp(x, 0, 30), x -> x.apply(0, back));
            Edge.dueIdle("a change of nothing, on a full one", 1, x -> {
                Edge.rich(x);
                x.change(0, 0);
            }, x -> x.apply(Edge.FULL, back));
        }
        Edge.dueLike("30 go, 30 come", 1, ChangeEdgeTest::allChanges, x -> x.apply(0, false), x -> {
            allChanges(x);
            x.copy(1, 0);
        });
        Edge.dueLike("30 taken back", 1, ChangeEdgeTest::allChanges, x -> x.apply(1, true), x -> {
            allChanges(x);
            x.copy(0, 1);
        });
        Edge.dueLike("30 come to an empty one", 1, ChangeEdgeTest::fromNothing, x -> x.apply(5, false), x -> {
            fromNothing(x);
            x.copy(1, 5);
        });
        Edge.dueLike("30 taken back leave an empty one", 1, ChangeEdgeTest::fromNothing, x -> x.apply(1, true), x -> {
            fromNothing(x);
            x.copy(0, 1);
        });
    }

    /** Graph 0 is empty, graph 1 full; the change between them is at hand. */
    private static void fromNothing(MergeGraphs x) {
        otherFull(x, 1);
        x.change(0, 1);
    }

    private static void applyIs0IfItCannotBe() {
        Edge.dueIdle("all that goes is missing", 0, x -> x.apply(Edge.EMPTY, false));
        Edge.dueIdle("back: all that came is missing", 0, x -> x.apply(Edge.EMPTY, true));
        for (int k : new int[] {0, 15, 29}) {
            Edge.dueIdle("one of 30 that go is missing: " + k, 0, x -> {
                allChanges(x);
                x.drop(0, k, 3, 39);
            }, x -> x.apply(0, false));
            Edge.dueIdle("back: one of 30 that came is missing: " + k, 0, x -> {
                allChanges(x);
                x.drop(1, k, 4, 39);
            }, x -> x.apply(1, true));
            Edge.dueIdle("one of 30 that come is there: " + k, 0, x -> {
                fromNothing(x);
                x.put(0, k, 4, 39);
            }, x -> x.apply(0, false));
            Edge.dueIdle("back: one of 30 that went is there: " + k, 0, x -> {
                otherFull(x, 1);
                x.change(1, 0);
                x.put(0, k, 4, 39);
            }, x -> x.apply(0, true));
        }
        Edge.dueIdle("all that goes is there, but what comes too", 0, x -> {
            Edge.rich(x);
            x.put(0, 5, 5, 5);
        }, x -> x.apply(0, false));
        Edge.dueIdle("put on twice", 0, x -> {
            Edge.rich(x);
            x.apply(0, false);
        }, x -> x.apply(0, false));
        Edge.dueIdle("taken back twice", 0, x -> {
            Edge.rich(x);
            x.apply(1, true);
        }, x -> x.apply(1, true));
    }

    /** A change by which as many go and come; graph 2 has what goes and as many facts more. */
    private static Edge.Setup room(int goes, int comes, int more) {
        return x -> {
            for (int k = 0; k < goes; k++) {
                x.put(0, k, 6, 0);
                x.put(2, k, 6, 0);
            }
            for (int k = 0; k < comes; k++) {
                x.put(1, k, 7, 0);
                x.put(3, k, 7, 0);
            }
            for (int k = 0; k < more; k++) {
                x.put(2, 39, 8, k);
                x.put(3, 39, 8, k);
            }
            x.change(0, 1);
        };
    }

    private static void applyIs0IfMoreThan30() {
        int[][] counts = {{0, 1, 29}, {0, 30, 0}, {1, 2, 28}, {2, 1, 28}, {29, 30, 0}, {1, 1, 29}, {5, 15, 15}};
        for (int[] c : counts) {
            String what = c[0] + " go, " + c[1] + " come, " + c[2] + " stay";
            Edge.dueGood(what, 1, room(c[0], c[1], c[2]), x -> x.apply(2, false));
            Edge.dueGood(what + ": how many then", c[1] + c[2], x -> {
                room(c[0], c[1], c[2]).make(x);
                x.apply(2, false);
            }, x -> x.size(2, 0));
        }
        int[][] tooMany = {{0, 1, 30}, {0, 30, 1}, {1, 2, 29}, {5, 15, 16}, {0, 30, 30}, {14, 15, 16}};
        for (int[] c : tooMany) {
            String what = c[0] + " go, " + c[1] + " come, " + c[2] + " stay: too many";
            Edge.dueIdle(what, 0, room(c[0], c[1], c[2]), x -> x.apply(2, false));
        }
        Edge.dueGood("back: 30 then", 1, room(2, 1, 28), x -> x.apply(3, true));
        Edge.dueIdle("back: 31 it would be", 0, room(2, 1, 29), x -> x.apply(3, true));
        Edge.dueGood("back: 30 then, none came", 1, room(1, 0, 29), x -> x.apply(3, true));
        Edge.dueIdle("back: 31 it would be, none came", 0, room(1, 0, 30), x -> x.apply(3, true));
    }

    private static void applyRefuses() {
        for (int graph : Edge.NO_GRAPHS) {
            Edge.dueIdle("apply, graph " + graph, Due.INDEX, x -> x.apply(graph, false));
            Edge.dueIdle("apply back, graph " + graph, Due.INDEX, x -> x.apply(graph, true));
            Edge.dueIdle("apply, no change yet, graph " + graph, Due.INDEX, x -> x.put(0, 1, 1, 1), x -> x.apply(graph, false));
        }
    }
}
