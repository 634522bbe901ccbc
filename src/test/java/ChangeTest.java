/** Promises 17 to 19: change, part, apply. */
public final class ChangeTest {
    private static final int[] BAD_GRAPHS = {-1, 6, Integer.MIN_VALUE, Integer.MAX_VALUE};

    private ChangeTest() {
    }

    public static void main(String[] args) {
        changeAndParts();
        applying();
        applyingWhatCannotBe();
        applyingTooMuch();
        wrongInputs();
        Due.end("ChangeTest");
    }

    private static MergeGraphs two(String first, String second) {
        MergeGraphs x = new MergeGraphs();
        Due.fill(x, 0, first);
        Due.fill(x, 1, second);
        return x;
    }

    private static void changeAndParts() {
        MergeGraphs x = two("1 1 1; 2 2 2; 40 1 41; 9 9 9", "2 2 2; 40 1 42; 0 0 0");
        Due.due("change", 5, () -> x.change(0, 1));
        int[][] want = {
            {Due.number(1, 1, 1), Due.number(9, 9, 9), Due.number(40, 1, 41), -1, -1},
            {Due.number(0, 0, 0), Due.number(40, 1, 42), -1, -1, -1}};
        for (int what = 0; what < 2; what++) {
            for (int k = 0; k < 5; k++) {
                int w = what;
                int i = k;
                Due.due("part " + what + " " + k, want[what][k], () -> x.part(w, i));
            }
        }
        Due.due("part, far behind", -1, () -> x.part(0, Integer.MAX_VALUE));
        Due.due("part, 30", -1, () -> x.part(1, 30));
        x.drop(0, 1, 1, 1);
        x.put(1, 1, 1, 1);
        Due.due("the change at hand stays as it was", Due.number(1, 1, 1), () -> x.part(0, 0));
        Due.due("graphs stay", 3, () -> x.size(0, 0));
        Due.due("none between alike facts", 0, () -> x.change(1, 1));
        Due.due("and then no part", -1, () -> x.part(0, 0));
        Due.due("all go", 3, () -> x.change(0, 5));
        Due.due("none come", -1, () -> x.part(1, 0));
        Due.due("all come", 3, () -> x.change(5, 0));
        Due.due("none go", -1, () -> x.part(0, 0));
        Due.due("first that comes", Due.number(2, 2, 2), () -> x.part(1, 0));
    }

    private static void applying() {
        MergeGraphs x = two("1 1 1; 2 2 2; 3 3 3", "2 2 2; 40 4 41");
        x.change(0, 1);
        Due.due("put on the first", 1, () -> x.apply(0, false));
        Due.dueText("it becomes the second", "2 2 2; 40 4 41;", Due.facts(x, 0));
        Due.due("not twice", 0, () -> x.apply(0, false));
        Due.due("taken back", 1, () -> x.apply(0, true));
        Due.dueText("it is the first again", "1 1 1; 2 2 2; 3 3 3;", Due.facts(x, 0));
        Due.due("not taken back twice", 0, () -> x.apply(0, true));
        Due.fill(x, 4, "1 1 1; 3 3 3; 7 7 7");
        Due.due("put on another one", 1, () -> x.apply(4, false));
        Due.dueText("what it does not name stays", "7 7 7; 40 4 41;", Due.facts(x, 4));
        Due.due("the change is still at hand", Due.number(1, 1, 1), () -> x.part(0, 0));
    }

    private static void applyingWhatCannotBe() {
        MergeGraphs x = two("1 1 1; 2 2 2", "5 5 5; 6 6 6");
        x.change(0, 1);
        Due.fill(x, 2, "1 1 1");
        Due.due("one that goes is missing", 0, () -> x.apply(2, false));
        Due.fill(x, 3, "1 1 1; 2 2 2; 6 6 6");
        Due.due("one that comes is there", 0, () -> x.apply(3, false));
        Due.dueText("nothing changes", "1 1 1; 2 2 2; 6 6 6;", Due.facts(x, 3));
        Due.fill(x, 4, "5 5 5");
        Due.due("back: one that came is missing", 0, () -> x.apply(4, true));
        Due.fill(x, 5, "2 2 2; 5 5 5; 6 6 6");
        Due.due("back: one that went is there", 0, () -> x.apply(5, true));
        Due.dueText("nothing changes either", "2 2 2; 5 5 5; 6 6 6;", Due.facts(x, 5));
    }

    private static void applyingTooMuch() {
        MergeGraphs x = two("39 0 0", "1 1 1; 2 2 2");
        x.change(0, 1);
        for (int i = 0; i < 29; i++) {
            x.put(2, i, 3, 40);
        }
        x.put(2, 39, 0, 0);
        Due.due("30, one goes, two come", 0, () -> x.apply(2, false));
        Due.due("nothing changes: how many", 30, () -> x.size(2, 0));
        Due.due("nothing changes: the last", Due.number(39, 0, 0), () -> x.fact(2, 29));
        x.drop(2, 0, 3, 40);
        Due.due("29, one goes, two come", 1, () -> x.apply(2, false));
        Due.due("30 then", 30, () -> x.size(2, 0));
        Due.due("back", 1, () -> x.apply(2, true));
        Due.due("29 again", 29, () -> x.size(2, 0));
        x.change(1, 0);
        x.drop(2, 39, 0, 0);
        x.put(2, 1, 1, 1);
        x.put(2, 2, 2, 2);
        Due.due("30, two go, one comes", 1, () -> x.apply(2, false));
        x.put(2, 30, 3, 40);
        Due.due("back, and too many", 0, () -> x.apply(2, true));
        Due.due("back: nothing changes", 30, () -> x.size(2, 0));
    }

    private static void wrongInputs() {
        MergeGraphs x = two("1 1 1", "2 2 2");
        x.change(0, 1);
        for (int graph : BAD_GRAPHS) {
            Due.due("change, first", Due.INDEX, () -> x.change(graph, 2));
            Due.due("change, second", Due.INDEX, () -> x.change(2, graph));
            Due.due("apply", Due.INDEX, () -> x.apply(graph, false));
            Due.due("apply back", Due.INDEX, () -> x.apply(graph, true));
        }
        for (int wrong : new int[] {-1, 2, Integer.MIN_VALUE, Integer.MAX_VALUE}) {
            Due.due("part, what", Due.INDEX, () -> x.part(wrong, 0));
        }
        Due.due("part, k", Due.INDEX, () -> x.part(0, -1));
        Due.due("part, k", Due.INDEX, () -> x.part(1, Integer.MIN_VALUE));
        Due.due("the change is still at hand", Due.number(1, 1, 1), () -> x.part(0, 0));
        Due.due("what comes too", Due.number(2, 2, 2), () -> x.part(1, 0));
    }
}
