/** Boundary cases of promises 14 to 16: join, merge, clash. */
public final class MergeEdgeTest {
    private static final int MIN = Integer.MIN_VALUE;
    private static final int MAX = Integer.MAX_VALUE;

    private MergeEdgeTest() {
    }

    public static void main(String[] args) {
        joinOfEmptyAndFull();
        joinIsNoneIfMoreThan30();
        joinIsNoneIfTooFewNodes();
        joinRefuses();
        mergeOfEmptyAndFull();
        mergeIsNoneIfMoreThan30();
        mergeRefuses();
        clashOfNoMerge();
        clashAtTheEnds();
        clashOfTheLatestMerge();
        Due.end("MergeEdgeTest");
    }

    /** Graph 0 has as many facts of names, graph 1 as many others; graph 2 has something to lose. */
    private static Edge.Setup counts(int first, int second) {
        return x -> {
            Edge.fillUp(x, 0, first);
            for (int k = 0; k < second; k++) {
                x.put(1, k, 4, 39);
            }
            x.put(2, 7, 7, 45);
        };
    }

    private static void joinOfEmptyAndFull() {
        Edge.dueLike("empty and empty", 0, x -> Edge.fillUp(x, 2, 30), x -> x.join(0, 1, 2), x -> x.drop(2, 0, 0, 0));
        Edge.dueLike("full and empty", 30, counts(30, 0), x -> x.join(0, 1, 2), x -> {
            Edge.fillUp(x, 0, 30);
            Edge.fillUp(x, 2, 30);
        });
        Edge.dueLike("empty and full", 30, counts(30, 0), x -> x.join(1, 0, 2), x -> {
            Edge.fillUp(x, 0, 30);
            Edge.fillUp(x, 2, 30);
        });
        Edge.dueIdle("a full one with itself, to itself", 30, x -> x.join(Edge.FULL, Edge.FULL, Edge.FULL));
        Edge.dueIdle("an empty one with itself, to itself", 0, x -> x.join(Edge.EMPTY, Edge.EMPTY, Edge.EMPTY));
        Edge.dueLike("six nodes and none", 30, x -> Edge.linkAll(x, 0), x -> x.join(0, 1, 0), x -> Edge.linkAll(x, 0));
        Edge.dueLike("none and six nodes", 30, x -> Edge.linkAll(x, 1), x -> x.join(0, 1, 1), x -> Edge.linkAll(x, 1));
    }

    private static void joinIsNoneIfMoreThan30() {
        int[][] good = {{15, 15}, {29, 1}, {1, 29}, {30, 0}};
        for (int[] two : good) {
            Edge.dueGood("just 30: " + two[0] + " and " + two[1], 30, counts(two[0], two[1]), x -> x.join(0, 1, 2));
        }
        int[][] bad = {{15, 16}, {30, 1}, {1, 30}, {30, 30}};
        for (int[] two : bad) {
            for (int to = 0; to < 3; to++) {
                int target = to;
                Edge.dueIdle("too many: " + two[0] + " and " + two[1], -1, counts(two[0], two[1]), x -> x.join(0, 1, target));
            }
        }
        Edge.Setup sharedOne = x -> {
            counts(29, 1).make(x);
            x.put(1, 0, 3, 39);
        };
        Edge.dueGood("facts of names in both count once", 30, sharedOne, x -> x.join(0, 1, 2));
        Edge.dueGood("30 and the same 30", 30, x -> {
            Edge.fillUp(x, 0, 30);
            x.copy(0, 1);
        }, x -> x.join(0, 1, 2));
        Edge.dueIdle("the same fact of a node counts twice", -1, x -> {
            Edge.fillUp(x, 0, 29);
            x.put(0, 1, 1, 40);
            x.put(1, 1, 1, 40);
        }, x -> x.join(0, 1, 2));
        dueChangeless("join, too many", -1, x -> x.join(Edge.FULL, 0, 3));
    }

    private static void joinIsNoneIfTooFewNodes() {
        for (int first = 0; first <= 6; first++) {
            for (int second = 0; second <= 6; second++) {
                dueNodes(first, second);
            }
        }
        Edge.Setup last = x -> Due.fill(x, 0, "40 1 41; 42 1 43; 44 1 44");
        Edge.dueLike("the last free one is 45", 4, x -> {
            last.make(x);
            x.put(1, 2, 2, 40);
        }, x -> x.join(0, 1, 2), x -> {
            last.make(x);
            x.put(1, 2, 2, 40);
            Due.fill(x, 2, "40 1 41; 42 1 43; 44 1 44; 2 2 45");
        });
        Edge.dueLike("the last free one is 40", 4, x -> {
            Due.fill(x, 0, "45 1 41; 42 1 43; 44 1 44");
            x.put(1, 2, 2, 45);
        }, x -> x.join(0, 1, 2), x -> {
            Due.fill(x, 0, "45 1 41; 42 1 43; 44 1 44");
            x.put(1, 2, 2, 45);
            Due.fill(x, 2, "45 1 41; 42 1 43; 44 1 44; 2 2 40");
        });
        Edge.dueIdle("too few nodes and too many facts", -1, x -> {
            Edge.linkAll(x, 0);
            x.put(1, 2, 2, 40);
        }, x -> x.join(0, 1, 2));
    }

    private static void dueNodes(int first, int second) {
        Edge.Setup setup = x -> {
            for (int i = 0; i < first; i++) {
                x.put(0, 1, 1, 40 + i);
            }
            for (int i = 0; i < second; i++) {
                x.put(1, 2, 2, 45 - i);
            }
            x.put(2, 7, 7, 45);
        };
        String what = first + " nodes and " + second;
        if (first + second <= 6) {
            Edge.dueGood(what, first + second, setup, x -> x.join(0, 1, 2));
            Edge.dueGood(what + ": nodes then", first + second, x -> {
                setup.make(x);
                x.join(0, 1, 2);
            }, x -> x.size(2, 1));
        } else {
            for (int to = 0; to < 3; to++) {
                int target = to;
                Edge.dueIdle(what, -1, setup, x -> x.join(0, 1, target));
            }
        }
    }

    private static void joinRefuses() {
        for (int graph : Edge.NO_GRAPHS) {
            Edge.dueIdle("join, first " + graph, Due.INDEX, x -> x.join(graph, 0, 1));
            Edge.dueIdle("join, second " + graph, Due.INDEX, x -> x.join(0, graph, 1));
            Edge.dueIdle("join, to " + graph, Due.INDEX, x -> x.join(0, 1, graph));
            Edge.dueIdle("join, too many, to " + graph, Due.INDEX, x -> x.join(Edge.FULL, 0, graph));
        }
    }

    /** In a rich object, with its clash and its change; a call after it shows that they are still at hand. */
    private static void dueChangeless(String what, long want, Edge.Call call) {
        Edge.dueIdle(what, want, call);
        MergeGraphs x = Edge.made(Edge::rich);
        call.on(x);
        Due.due(what + ": then the clash", 1, () -> x.clash(0, 0));
        Due.due(what + ": then the change", 1, () -> x.apply(0, false));
    }

    private static void mergeOfEmptyAndFull() {
        Edge.dueLike("all empty", 0, x -> Edge.fillUp(x, 3, 30), x -> x.merge(0, 1, 2, 3), x -> x.drop(3, 0, 0, 0));
        Edge.dueIdle("all full, to itself", 0, x -> Edge.fillUp(x, 4, 30), x -> x.merge(4, 4, 4, 4));
        Edge.dueLike("a full base, empty sides", 0, x -> Edge.fillUp(x, 0, 30), x -> x.merge(0, 1, 2, 0), x -> x.drop(0, 0, 0, 0));
        Edge.dueIdle("an empty base, the same full sides", 0, x -> Edge.fillUp(x, 1, 30), x -> x.merge(0, 1, 1, 1));
        Edge.dueLike("an empty base, a full and an empty side", 0, x -> Edge.fillUp(x, 1, 30), x -> x.merge(0, 1, 2, 3), x -> {
            Edge.fillUp(x, 1, 30);
            Edge.fillUp(x, 3, 30);
        });
        Edge.dueLike("a full base is all changed by one side", 0, x -> {
            Edge.fillUp(x, 0, 30);
            x.copy(0, 2);
            for (int k = 0; k < 30; k++) {
                x.put(1, k, 4, 39);
            }
        }, x -> x.merge(0, 1, 2, 2), x -> {
            Edge.fillUp(x, 0, 30);
            for (int k = 0; k < 30; k++) {
                x.put(1, k, 4, 39);
                x.put(2, k, 4, 39);
            }
        });
    }

    /** Graph 0 is the base with as many facts, in both sides too; each side, 1 and 2, has as many more. */
    private static Edge.Setup sides(int base, int first, int second) {
        return x -> {
            Edge.fillUp(x, 0, base);
            x.copy(0, 1);
            x.copy(0, 2);
            for (int k = 0; k < first; k++) {
                x.put(1, k, 4, 39);
            }
            for (int k = 0; k < second; k++) {
                x.put(2, k, 5, 39);
            }
            x.put(3, 7, 7, 45);
        };
    }

    private static void mergeIsNoneIfMoreThan30() {
        int[][] good = {{0, 15, 15}, {10, 10, 10}, {0, 30, 0}, {0, 0, 30}, {29, 1, 0}, {29, 0, 1}, {28, 1, 1}, {30, 0, 0}};
        for (int[] three : good) {
            Edge.Setup setup = sides(three[0], three[1], three[2]);
            Edge.dueGood("just 30 of base " + three[0], 0, setup, x -> x.merge(0, 1, 2, 3));
            Edge.dueGood("30 then, of base " + three[0], 30, x -> {
                setup.make(x);
                x.merge(0, 1, 2, 3);
            }, x -> x.size(3, 0));
        }
        int[][] bad = {{0, 15, 16}, {10, 10, 11}, {0, 30, 1}, {0, 1, 30}, {29, 1, 1}, {28, 2, 1}};
        for (int[] three : bad) {
            for (int to = 0; to < 4; to++) {
                int target = to;
                Edge.dueIdle("too many of base " + three[0], -1, sides(three[0], three[1], three[2]), x -> x.merge(0, 1, 2, target));
            }
        }
        Edge.dueGood("31, but one is new in both", 0, x -> {
            sides(0, 15, 15).make(x);
            x.put(1, 39, 0, 0);
            x.drop(2, 0, 5, 39);
            x.put(2, 39, 0, 0);
        }, x -> x.merge(0, 1, 2, 3));
        Edge.dueGood("31, but one of the base went", 0, x -> {
            sides(10, 10, 11).make(x);
            x.drop(1, 0, 3, 39);
        }, x -> x.merge(0, 1, 2, 3));
        dueChangeless("merge, too many", -1, x -> x.merge(Edge.EMPTY, Edge.FULL, 0, 3));
        Edge.dueIdle("too many, though it would clash", -1, x -> {
            Edge.rich(x);
            x.drop(Edge.FULL, 29, 3, 39);
            x.put(Edge.FULL, 39, 1, 1);
        }, x -> x.merge(2, 1, Edge.FULL, 3));
    }

    private static void mergeRefuses() {
        for (int graph : Edge.NO_GRAPHS) {
            Edge.dueIdle("merge, base " + graph, Due.INDEX, x -> x.merge(graph, 0, 1, 2));
            Edge.dueIdle("merge, first " + graph, Due.INDEX, x -> x.merge(0, graph, 1, 2));
            Edge.dueIdle("merge, second " + graph, Due.INDEX, x -> x.merge(0, 1, graph, 2));
            Edge.dueIdle("merge, to " + graph, Due.INDEX, x -> x.merge(0, 0, 0, graph));
            Edge.dueIdle("merge, too many, to " + graph, Due.INDEX, x -> x.merge(Edge.EMPTY, Edge.FULL, 0, graph));
        }
    }

    private static void clashOfNoMerge() {
        for (int k : new int[] {-1, 0, 1, MIN, MAX}) {
            for (int what = 0; what < 2; what++) {
                int w = what;
                Edge.dueIdle("no merge yet, k " + k, Due.INDEX, x -> x.put(0, 1, 1, 1), x -> x.clash(k, w));
                Edge.dueIdle("a merge without clashes, k " + k, Due.INDEX, x -> x.merge(0, 1, 2, 3), x -> x.clash(k, w));
            }
        }
    }

    private static void clashAtTheEnds() {
        Edge.dueIdle("clash 0 of one, term", 1, x -> x.clash(0, 0));
        Edge.dueIdle("clash 0 of one, side", 0, x -> x.clash(0, 1));
        for (int k : new int[] {-1, 1, 2, MIN, MAX}) {
            Edge.dueIdle("clash of one, term, k " + k, Due.INDEX, x -> x.clash(k, 0));
            Edge.dueIdle("clash of one, side, k " + k, Due.INDEX, x -> x.clash(k, 1));
        }
        for (int what : new int[] {-1, 2, 3, MIN, MAX}) {
            Edge.dueIdle("clash, what " + what, Due.INDEX, x -> x.clash(0, what));
            Edge.dueIdle("clash, k and what " + what, Due.INDEX, x -> x.clash(what, what));
        }
        for (int k = 0; k < 60; k++) {
            int i = k;
            Edge.dueGood("60 clashes, term of " + k, i / 2, MergeEdgeTest::sixtyClashes, x -> x.clash(i, 0));
            Edge.dueGood("60 clashes, side of " + k, i % 2, MergeEdgeTest::sixtyClashes, x -> x.clash(i, 1));
        }
        for (int k : new int[] {-1, 60, 61, 92, MIN, MAX}) {
            Edge.dueIdle("60 clashes, k " + k, Due.INDEX, MergeEdgeTest::sixtyClashes, x -> x.clash(k, 0));
        }
        Edge.dueGood("a clash of the last node", 45, x -> {
            Due.fill(x, 0, "45 0 0");
            Due.fill(x, 2, "45 0 0; 0 1 45");
            x.merge(0, 1, 2, 3);
        }, x -> x.clash(0, 0));
        Edge.dueGood("a clash of name 0", 0, x -> {
            Due.fill(x, 0, "0 0 0");
            Due.fill(x, 1, "0 0 0; 0 1 45");
            x.merge(0, 1, 2, 3);
        }, x -> x.clash(0, 0));
    }

    /** Both sides lose all of a full base as subjects, and both say something new of each. */
    private static void sixtyClashes(MergeGraphs x) {
        Edge.fillUp(x, 0, 30);
        for (int k = 0; k < 30; k++) {
            x.put(1, 39, 1, k);
        }
        x.copy(1, 2);
        x.merge(0, 1, 2, 3);
    }

    private static void clashOfTheLatestMerge() {
        Edge.dueIdle("a later merge without clashes", Due.INDEX, x -> {
            Edge.rich(x);
            x.merge(0, 0, 0, 3);
        }, x -> x.clash(0, 0));
        Edge.dueGood("a later merge with another clash", 2, x -> {
            Edge.rich(x);
            Due.fill(x, 5, "2 2 2; 1 1 2; 2 1 40; 40 2 41");
            x.drop(1, 2, 1, 40);
            x.merge(0, 1, 5, 3);
        }, x -> x.clash(0, 0));
        Edge.dueGood("a later merge that throws", 1, x -> {
            Edge.rich(x);
            Due.answerOf(() -> x.merge(0, 0, 0, 6));
        }, x -> x.clash(0, 0));
        Edge.dueGood("a later merge that answers NONE", 1, x -> {
            Edge.rich(x);
            x.merge(Edge.EMPTY, Edge.FULL, 0, 3);
        }, x -> x.clash(0, 0));
        Edge.dueGood("graphs that change later", 1, x -> {
            Edge.rich(x);
            x.copy(Edge.EMPTY, 0);
            x.copy(Edge.EMPTY, 1);
            x.copy(Edge.EMPTY, 2);
            x.copy(Edge.EMPTY, 3);
        }, x -> x.clash(0, 0));
    }
}
