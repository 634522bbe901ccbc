/** Promises 14 to 16: join, merge, clash. */
public final class MergeTest {
    private static final int[] BAD_GRAPHS = {-1, 6, Integer.MIN_VALUE, Integer.MAX_VALUE};

    private MergeTest() {
    }

    public static void main(String[] args) {
        join();
        joinTooMuch();
        merge();
        mergeTooMuch();
        clashes();
        wrongInputs();
        Due.end("MergeTest");
    }

    private static void dueJoin(String what, String want, String first, String second) {
        for (int to = 0; to < 3; to++) {
            int target = to;
            MergeGraphs x = new MergeGraphs();
            Due.fill(x, 0, first);
            Due.fill(x, 1, second);
            Due.fill(x, 2, "39 39 39");
            Due.due(what, want.chars().filter(c -> c == ';').count(), () -> x.join(0, 1, target));
            Due.dueText(what + ": facts", want, Due.facts(x, to));
        }
    }

    private static void join() {
        dueJoin("nothing", "", "", "");
        dueJoin("names fall together", "1 1 1; 2 2 2;", "1 1 1", "1 1 1; 2 2 2");
        dueJoin("nodes are kept apart", "1 1 40; 1 1 41;", "1 1 40", "1 1 40");
        dueJoin("the least that are free", "40 1 42; 41 2 43; 44 3 44;", "40 1 42", "43 2 44; 45 3 45");
        dueJoin("by their numbers, gaps first", "1 1 40; 41 1 41; 42 1 40;", "41 1 41", "1 1 44; 45 1 44");
        dueJoin("nodes of the second alone", "1 1 40;", "", "1 1 45");
        dueJoin("six nodes", "40 1 41; 42 1 43; 44 1 45;", "40 1 41; 42 1 43", "40 1 41");
        MergeGraphs x = new MergeGraphs();
        Due.fill(x, 0, "1 1 1; 1 1 45; 45 2 44");
        Due.due("with itself", 5, () -> x.join(0, 0, 0));
        Due.dueText("with itself: facts", "1 1 1; 1 1 41; 1 1 45; 41 2 40; 45 2 44;", Due.facts(x, 0));
    }

    private static void joinTooMuch() {
        MergeGraphs x = new MergeGraphs();
        Due.fill(x, 0, "40 1 41; 42 1 43");
        Due.fill(x, 1, "40 1 41; 1 1 42");
        Due.fill(x, 2, "5 5 5");
        Due.due("too few nodes", -1, () -> x.join(0, 1, 2));
        Due.dueText("nothing changes", "5 5 5;", Due.facts(x, 2));
        Due.due("too few nodes, to itself", -1, () -> x.join(0, 1, 0));
        Due.dueText("nothing changes in itself", "40 1 41; 42 1 43;", Due.facts(x, 0));
        for (int i = 0; i < 20; i++) {
            x.put(3, i, 1, 40);
            x.put(4, i + 10, 2, i < 10 ? 1 : 40);
        }
        Due.due("too many facts", -1, () -> x.join(3, 4, 3));
        Due.due("nothing changes in the first", 20, () -> x.size(3, 0));
        Due.due("no node more", 1, () -> x.size(3, 1));
        for (int i = 10; i < 20; i++) {
            x.drop(4, i + 10, 2, 40);
        }
        Due.due("just 30", 30, () -> x.join(3, 4, 5));
        x.put(4, 0, 0, 0);
        Due.due("one more", -1, () -> x.join(3, 4, 5));
        Due.due("what was joined before stays", 30, () -> x.size(5, 0));
    }

    private static MergeGraphs sides(String base, String first, String second) {
        MergeGraphs x = new MergeGraphs();
        Due.fill(x, 0, base);
        Due.fill(x, 1, first);
        Due.fill(x, 2, second);
        return x;
    }

    private static void dueMerge(String what, String want, String base, String first, String second) {
        for (int to = 0; to < 4; to++) {
            MergeGraphs x = sides(base, first, second);
            Due.fill(x, 3, "39 39 39");
            x.merge(0, 1, 2, to);
            Due.dueText(what, want, Due.facts(x, to));
        }
    }

    private static void merge() {
        dueMerge("nothing", "", "", "", "");
        dueMerge("kept by both", "1 1 1;", "1 1 1", "1 1 1", "1 1 1");
        dueMerge("gone on one side", "2 2 2;", "1 1 1; 2 2 2", "2 2 2", "1 1 1; 2 2 2");
        dueMerge("gone on the other side", "2 2 2;", "1 1 1; 2 2 2", "1 1 1; 2 2 2", "2 2 2");
        dueMerge("gone on both", "", "1 1 1", "", "");
        dueMerge("new on either side", "1 1 1; 2 2 2;", "", "1 1 1", "2 2 2");
        dueMerge("new on both", "1 1 1;", "", "1 1 1", "1 1 1");
        dueMerge("nodes are the same by numbers", "1 1 40; 40 1 41; 40 2 2;", "1 1 40", "1 1 40; 40 1 41", "1 1 40; 40 2 2");
    }

    private static void mergeTooMuch() {
        MergeGraphs x = sides("39 1 2", "", "39 1 2; 39 2 2");
        for (int i = 0; i < 15; i++) {
            x.put(4, i, 1, 40);
            x.put(5, i, 2, 40);
        }
        Due.due("just 30", 0, () -> x.merge(1, 4, 5, 3));
        Due.due("30 are there", 30, () -> x.size(3, 0));
        Due.due("a clash", 1, () -> x.merge(0, 1, 2, 3));
        x.put(5, 39, 39, 39);
        Due.due("30 and one more", -1, () -> x.merge(1, 4, 5, 4));
        Due.due("nothing changes", 15, () -> x.size(4, 0));
        Due.due("clashes stay: term", 39, () -> x.clash(0, 0));
        Due.due("clashes stay: side", 0, () -> x.clash(0, 1));
        Due.due("clashes stay: count", Due.INDEX, () -> x.clash(1, 0));
    }

    private static void dueClashes(String what, String want, String base, String first, String second) {
        MergeGraphs x = sides(base, first, second);
        int count = x.merge(0, 1, 2, 3);
        StringBuilder got = new StringBuilder();
        for (int k = 0; k < count; k++) {
            got.append(x.clash(k, 0)).append('/').append(x.clash(k, 1)).append(' ');
        }
        Due.dueText(what, want, got.toString().trim());
        Due.due(what + ": no more", Due.INDEX, () -> x.clash(count, 0));
    }

    private static void clashes() {
        dueClashes("none", "", "1 1 1", "1 1 1", "1 1 1");
        dueClashes("first side lost it", "1/0", "1 1 2", "", "1 1 2; 1 2 2");
        dueClashes("second side lost it", "1/1", "1 1 2", "1 1 2; 1 2 2", "");
        dueClashes("as object", "1/0", "1 1 2", "", "1 1 2; 5 1 1");
        dueClashes("a verb is no term", "", "1 1 2", "", "1 1 2; 5 1 5");
        dueClashes("what is not new does not count", "", "1 1 2; 5 1 1", "5 1 1", "1 1 2; 5 1 1");
        dueClashes("one subject left", "", "1 1 2; 1 2 2", "1 2 2", "1 1 2; 1 2 2; 5 1 1");
        dueClashes("another fact with it as subject", "", "1 1 2", "1 3 3", "1 1 2; 5 1 1");
        dueClashes("no subject in the base", "", "2 1 1", "", "2 1 1; 5 1 1");
        dueClashes("own news do not count", "", "1 1 2", "5 1 1", "1 1 2");
        dueClashes("both sides lost it", "1/0 1/1", "1 1 2", "5 1 1", "6 1 1");
        dueClashes("in order", "1/1 2/0 40/0 40/1", "1 1 9; 2 1 9; 40 1 9", "1 1 9; 9 1 1; 9 1 40", "2 1 9; 2 1 2; 9 2 40");
        dueClashes("a node", "45/0", "45 1 1", "1 1 1", "45 1 1; 45 1 45");
        dueClashes("a loop of both places", "3/0", "3 1 1", "", "3 1 1; 3 3 3");
        MergeGraphs x = sides("", "", "");
        for (int i = 0; i < 30; i++) {
            x.put(0, i, 0, 39);
            x.put(1, 39, 1, i);
            x.put(2, 39, 1, i);
        }
        Due.due("as many as can be", 60, () -> x.merge(0, 1, 2, 3));
        Due.due("the last one's term", 29, () -> x.clash(59, 0));
        Due.due("the last one's side", 1, () -> x.clash(59, 1));
        Due.due("a merge without any", 0, () -> x.merge(0, 0, 0, 3));
        Due.due("the latest merge counts", Due.INDEX, () -> x.clash(0, 0));
    }

    private static void wrongInputs() {
        MergeGraphs x = sides("1 1 2", "", "1 1 2; 1 2 2");
        x.merge(0, 1, 2, 3);
        for (int graph : BAD_GRAPHS) {
            Due.due("join, first", Due.INDEX, () -> x.join(graph, 0, 4));
            Due.due("join, second", Due.INDEX, () -> x.join(0, graph, 4));
            Due.due("join, to", Due.INDEX, () -> x.join(0, 1, graph));
            Due.due("merge, base", Due.INDEX, () -> x.merge(graph, 0, 0, 4));
            Due.due("merge, first", Due.INDEX, () -> x.merge(0, graph, 0, 4));
            Due.due("merge, second", Due.INDEX, () -> x.merge(0, 0, graph, 4));
            Due.due("merge, to", Due.INDEX, () -> x.merge(0, 0, 0, graph));
        }
        for (int wrong : new int[] {-1, 2, Integer.MIN_VALUE, Integer.MAX_VALUE}) {
            Due.due("clash, what", Due.INDEX, () -> x.clash(0, wrong));
            Due.due("clash, k", Due.INDEX, () -> x.clash(wrong, 0));
        }
        Due.due("clash behind the last", Due.INDEX, () -> x.clash(1, 1));
        Due.due("clashes are still there", 1, () -> x.clash(0, 0));
        Due.due("and graphs too", 0, () -> x.size(4, 0));
    }
}
