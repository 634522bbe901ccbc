/** What the tests of the boundary cases share: values beyond the ends, an object with all in it, refused calls. */
final class Edge {
    /** Makes a new object ready for the call that is tested. */
    interface Setup {
        void make(MergeGraphs x);
    }

    interface Call {
        long on(MergeGraphs x);
    }

    static final int[] NO_GRAPHS = {-1, 6, Integer.MIN_VALUE, Integer.MAX_VALUE};
    static final int FIRST_GRAPH = 0;
    static final int LAST_GRAPH = 5;
    /** How many calls rich() makes. */
    static final int RICH_CALLS = 41;
    /** Graph 4 of a rich object is full, graph 5 empty. */
    static final int FULL = 4;
    static final int EMPTY = 5;

    private Edge() {
    }

    /** Graphs of several kinds, a merge with a clash (term 1, side 0), a change at hand: two go, one comes. */
    static void rich(MergeGraphs x) {
        Due.fill(x, 0, "1 1 2; 2 1 40; 40 2 41");
        Due.fill(x, 1, "2 1 40; 5 5 5");
        Due.fill(x, 2, "1 1 2; 1 2 45; 2 1 40; 40 2 41");
        x.merge(0, 1, 2, 3);
        fillUp(x, FULL, 30);
        x.change(0, 1);
    }

    static MergeGraphs made(Setup setup) {
        MergeGraphs x = new MergeGraphs();
        setup.make(x);
        return x;
    }

    /** Puts as many facts (k 3 39) in a graph, k from 0 on: names alone. */
    static void fillUp(MergeGraphs x, int graph, int count) {
        for (int k = 0; k < count; k++) {
            x.put(graph, k, 3, 39);
        }
    }

    /** Each of the six nodes linked to each other one: 30 facts. */
    static void linkAll(MergeGraphs x, int graph) {
        for (int s = 40; s < 46; s++) {
            for (int o = 40; o < 46; o++) {
                if (s != o) {
                    x.put(graph, s, 0, o);
                }
            }
        }
    }

    /** A good call: it answers what is due. */
    static void dueGood(String what, long want, Setup setup, Call call) {
        MergeGraphs x = made(setup);
        Due.due(what, want, () -> call.on(x));
    }

    /** A call that leaves all as it was: an object that did not get it shows the same. */
    static void dueIdle(String what, long want, Setup setup, Call call) {
        MergeGraphs x = made(setup);
        Due.due(what, want, () -> call.on(x));
        Due.dueText(what + ": nothing changes, what shows", stateOf(made(setup)), stateOf(x));
    }

    static void dueIdle(String what, long want, Call call) {
        dueIdle(what, want, Edge::rich, call);
    }

    /** A good call after which all shows as in an object made another way. */
    static void dueLike(String what, long want, Setup setup, Call call, Setup result) {
        MergeGraphs x = made(setup);
        Due.due(what, want, () -> call.on(x));
        Due.dueText(what + ": what shows", stateOf(made(result)), stateOf(x));
    }

    /** All that an object shows: facts, clashes, the change at hand. */
    static String stateOf(MergeGraphs x) {
        StringBuilder text = new StringBuilder();
        for (int graph = 0; graph < 6; graph++) {
            text.append('[').append(Due.facts(x, graph)).append("] ");
        }
        text.append("clashes ");
        int clashes = 0;
        for (long term = clashTerm(x, 0); term != Due.INDEX; term = clashTerm(x, clashes)) {
            text.append(term).append('/').append(x.clash(clashes, 1)).append(' ');
            clashes++;
        }
        for (int what = 0; what < 2; what++) {
            text.append(what == 0 ? "goes " : "comes ");
            int k = 0;
            for (int number = x.part(what, k); number != -1; number = x.part(what, k)) {
                text.append(number).append(' ');
                k++;
            }
        }
        return text.toString();
    }

    private static long clashTerm(MergeGraphs x, int k) {
        return Due.answerOf(() -> x.clash(k, 0));
    }
}
