/** Promises 10 to 13: follows, putting, lean, core. */
public final class FollowsTest {
    private static final int[] BAD_GRAPHS = {-1, 6, Integer.MIN_VALUE, Integer.MAX_VALUE};

    private FollowsTest() {
    }

    public static void main(String[] args) {
        follows();
        putting();
        lean();
        core();
        wrongInputs();
        Due.end("FollowsTest");
    }

    private static void dueFollows(String what, boolean want, String ground, String claim) {
        MergeGraphs x = new MergeGraphs();
        Due.fill(x, 0, ground);
        Due.fill(x, 1, claim);
        Due.due(what, Due.bit(want), () -> Due.bit(x.follows(0, 1)));
        Due.dueText(what + ": nothing changes", Due.facts(x, 0) + Due.facts(x, 1),
            sorted(ground) + sorted(claim));
    }

    private static String sorted(String facts) {
        MergeGraphs x = new MergeGraphs();
        Due.fill(x, 0, facts);
        return Due.facts(x, 0);
    }

    private static void follows() {
        dueFollows("nothing from nothing", true, "", "");
        dueFollows("nothing from something", true, "1 1 1", "");
        dueFollows("something from nothing", false, "", "1 1 1");
        dueFollows("a node from nothing", false, "", "40 1 41");
        dueFollows("a part", true, "1 1 1; 2 2 2", "2 2 2");
        dueFollows("no part", false, "1 1 1; 2 2 2", "2 2 1");
        dueFollows("a name for a node", true, "1 1 2", "40 1 2");
        dueFollows("a node for a name", false, "40 1 2", "1 1 2");
        dueFollows("two nodes, one term", true, "1 1 1", "40 1 41");
        dueFollows("one node, two terms", false, "1 1 2", "40 1 40");
        dueFollows("the same for each place", false, "1 1 2; 3 2 4", "40 1 2; 40 2 4");
        dueFollows("a path in a ring", true, "1 1 2; 2 1 1", "40 1 41; 41 1 42; 42 1 43; 43 1 44; 44 1 45");
        dueFollows("an odd ring in an even one", false, "1 1 2; 2 1 1", "40 1 41; 41 1 42; 42 1 40");
        dueFollows("a loop holds all", true, "7 1 7", "40 1 41; 41 1 42; 42 1 40; 40 1 40");
        dueFollows("a verb is no term", false, "1 5 2", "40 5 2; 5 5 40");
        dueFollows("nodes with nodes' numbers", true, "45 1 44", "40 1 41");
        dueFollows("a name that stays", false, "1 1 2; 1 1 40", "1 1 3; 1 1 40");
    }

    private static void duePutting(String what, int[] want, String ground, String claim) {
        MergeGraphs x = new MergeGraphs();
        Due.fill(x, 0, ground);
        Due.fill(x, 1, claim);
        for (int i = 0; i < 6; i++) {
            int node = 40 + i;
            Due.due(what + ", node " + node, want[i], () -> x.putting(0, 1, node));
        }
    }

    private static void putting() {
        duePutting("the least terms", new int[] {1, -1, 1, -1, -1, 5}, "9 1 9; 1 1 9; 5 2 5; 44 1 44", "40 1 9; 42 1 9; 45 2 45");
        duePutting("names before nodes", new int[] {39, -1, -1, -1, -1, -1}, "40 1 1; 39 1 1", "40 1 1");
        duePutting("a node, if it must be", new int[] {45, -1, -1, -1, -1, -1}, "45 1 1; 39 2 1", "40 1 1");
        duePutting("the first node weighs most", new int[] {1, 9, -1, -1, -1, -1}, "1 1 9; 2 1 3", "40 1 41");
        duePutting("a later one holds an earlier one", new int[] {2, 3, -1, -1, -1, -1}, "1 1 9; 2 1 3; 3 2 3", "40 1 41; 41 2 41");
        duePutting("does not follow", new int[] {-1, -1, -1, -1, -1, -1}, "1 1 2", "40 1 40");
        MergeGraphs x = new MergeGraphs();
        Due.fill(x, 0, "1 1 9; 2 1 3; 3 2 3");
        Due.fill(x, 1, "40 1 41; 41 2 41");
        for (int node : new int[] {-1, 1, 2, 39, 42, 46, Integer.MIN_VALUE, Integer.MAX_VALUE}) {
            Due.due("no node of it", -1, () -> x.putting(0, 1, node));
        }
    }

    private static void dueCore(String what, int times, String want, String facts) {
        MergeGraphs x = new MergeGraphs();
        Due.fill(x, 3, facts);
        Due.due(what + ": lean", Due.bit(times == 0), () -> Due.bit(x.lean(3)));
        Due.due(what + ": core", times, () -> x.core(3));
        Due.dueText(what + ": what is left", want, Due.facts(x, 3));
        Due.due(what + ": then it is lean", 1, () -> Due.bit(x.lean(3)));
        Due.due(what + ": then it is its core", 0, () -> x.core(3));
    }

    private static void lean() {
        MergeGraphs x = new MergeGraphs();
        Due.due("empty", 1, () -> Due.bit(x.lean(0)));
        Due.fill(x, 0, "1 1 2; 1 1 3");
        Due.due("names alone", 1, () -> Due.bit(x.lean(0)));
        Due.fill(x, 0, "1 1 40");
        Due.due("a node that says nothing more", 0, () -> Due.bit(x.lean(0)));
        Due.fill(x, 0, "40 2 40");
        Due.due("a node that says more", 1, () -> Due.bit(x.lean(0)));
        Due.dueText("lean changes nothing", "1 1 2; 1 1 3; 1 1 40; 40 2 40;", Due.facts(x, 0));
        for (int s = 40; s < 46; s++) {
            for (int o = 40; o < 46; o++) {
                if (s != o) {
                    x.put(1, s, 0, o);
                }
            }
        }
        Due.due("all nodes linked to all others", 1, () -> Due.bit(x.lean(1)));
        x.drop(1, 40, 0, 41);
        x.drop(1, 41, 0, 40);
        Due.due("but for one link", 0, () -> Due.bit(x.lean(1)));
    }

    private static void core() {
        dueCore("empty", 0, "", "");
        dueCore("a loop", 0, "40 1 40;", "40 1 40");
        dueCore("one loop more", 1, "40 1 40;", "40 1 40; 41 1 41");
        dueCore("names swallow nodes", 1, "7 1 7;", "40 1 41; 41 1 42; 42 1 40; 7 1 7");
        dueCore("two rings of three", 1, "40 1 41; 41 1 42; 42 1 40;",
            "40 1 41; 41 1 42; 42 1 40; 43 1 44; 44 1 45; 45 1 43");
        dueCore("a ring of six to and fro", 1, "40 1 41; 41 1 40;",
            "40 1 41; 41 1 42; 42 1 43; 43 1 44; 44 1 45; 45 1 40;"
                + "41 1 40; 42 1 41; 43 1 42; 44 1 43; 45 1 44; 40 1 45");
        dueCore("a path that can't be folded", 0, "40 1 41; 41 1 42;", "40 1 41; 41 1 42");
        // The first row that makes fewer facts is put, not the one that makes the fewest.
        dueCore("once more and once more", 3, "41 0 41;", "40 0 41; 40 0 42; 41 0 41; 42 0 41; 42 0 44; 43 0 40");
        dueCore("five times", 5, "45 0 45;", "40 0 41; 42 0 45; 43 0 42; 44 0 41; 44 0 45; 45 0 45");
    }

    private static void wrongInputs() {
        MergeGraphs x = new MergeGraphs();
        for (int graph : BAD_GRAPHS) {
            Due.due("follows, first", Due.INDEX, () -> Due.bit(x.follows(graph, 0)));
            Due.due("follows, second", Due.INDEX, () -> Due.bit(x.follows(0, graph)));
            Due.due("putting, first", Due.INDEX, () -> x.putting(graph, 0, 40));
            Due.due("putting, second", Due.INDEX, () -> x.putting(0, graph, 3));
            Due.due("lean", Due.INDEX, () -> Due.bit(x.lean(graph)));
            Due.due("core", Due.INDEX, () -> x.core(graph));
        }
    }
}
