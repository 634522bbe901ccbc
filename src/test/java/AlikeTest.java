/** Promises 7 to 9: alike, image, form. */
public final class AlikeTest {
    private static final int[] BAD_GRAPHS = {-1, 6, Integer.MIN_VALUE, Integer.MAX_VALUE};

    private AlikeTest() {
    }

    public static void main(String[] args) {
        alike();
        image();
        form();
        wrongInputs();
        Due.end("AlikeTest");
    }

    private static void dueAlike(String what, boolean want, String first, String second) {
        MergeGraphs x = new MergeGraphs();
        Due.fill(x, 0, first);
        Due.fill(x, 1, second);
        Due.due(what, Due.bit(want), () -> Due.bit(x.alike(0, 1)));
        Due.due(what + ", the other way round", Due.bit(want), () -> Due.bit(x.alike(1, 0)));
        Due.due(what + ", by form", Due.bit(want), () -> Due.bit(Due.form(x, 0).equals(Due.form(x, 1))));
        Due.due(what + ", itself", 1, () -> Due.bit(x.alike(0, 0)));
    }

    private static void alike() {
        dueAlike("empty", true, "", "");
        dueAlike("empty and not", false, "", "1 1 1");
        dueAlike("names", true, "1 1 2; 2 1 3", "2 1 3; 1 1 2");
        dueAlike("names are not put for names", false, "1 1 2", "1 1 3");
        dueAlike("a name is not put for a node", false, "1 1 40", "1 1 3");
        dueAlike("another node", true, "1 1 40", "1 1 45");
        dueAlike("another verb", false, "1 1 40", "1 2 45");
        dueAlike("another way round", false, "1 1 40", "40 1 1");
        dueAlike("more facts", false, "40 1 41", "40 1 41; 41 1 40");
        dueAlike("as many facts, fewer nodes", false, "40 1 41; 41 1 42", "40 1 41; 41 1 40");
        dueAlike("each for another one", false, "40 1 41", "40 1 40");
        dueAlike("two rings of three and one of six", false,
            "40 1 41; 41 1 42; 42 1 40; 43 1 44; 44 1 45; 45 1 43",
            "40 1 41; 41 1 42; 42 1 43; 43 1 44; 44 1 45; 45 1 40");
        dueAlike("rings of six", true,
            "40 1 43; 43 1 41; 41 1 44; 44 1 42; 42 1 45; 45 1 40",
            "40 1 41; 41 1 42; 42 1 43; 43 1 44; 44 1 45; 45 1 40");
        dueAlike("a ring with a mark", true, "40 1 41; 41 1 42; 42 1 40; 41 2 41", "43 1 45; 45 1 44; 44 1 43; 44 2 44");
        dueAlike("a mark elsewhere", false, "40 1 41; 41 1 42; 41 2 41", "40 1 41; 41 1 42; 42 2 42");
    }

    private static void image() {
        MergeGraphs x = new MergeGraphs();
        Due.fill(x, 0, "1 1 41; 1 1 42; 1 1 44");
        Due.fill(x, 1, "1 1 40; 1 1 43; 1 1 45");
        int[] want = {-1, 40, 43, -1, 45, -1};
        for (int i = 0; i < 6; i++) {
            int node = 40 + i;
            Due.due("the first row of many", want[i], () -> x.image(0, 1, node));
        }
        for (int node : new int[] {-1, 0, 1, 39, 46, Integer.MIN_VALUE, Integer.MAX_VALUE}) {
            Due.due("no node", -1, () -> x.image(0, 1, node));
        }
        Due.due("names have no image", -1, () -> x.image(0, 0, 1));
        x.put(1, 43, 2, 43);
        Due.due("not alike", -1, () -> x.image(0, 1, 41));
        x.put(0, 41, 2, 41);
        Due.due("forced first", 43, () -> x.image(0, 1, 41));
        Due.due("then the least", 40, () -> x.image(0, 1, 42));
        Due.due("then the last", 45, () -> x.image(0, 1, 44));
        Due.fill(x, 2, "40 1 41; 41 1 42; 42 1 43; 43 1 44; 44 1 45; 45 1 40");
        Due.fill(x, 3, "45 1 44; 44 1 43; 43 1 42; 42 1 41; 41 1 40; 40 1 45");
        int[] ring = {40, 45, 44, 43, 42, 41};
        for (int i = 0; i < 6; i++) {
            int node = 40 + i;
            Due.due("a ring turned round", ring[i], () -> x.image(2, 3, node));
        }
        Due.due("image of the empty", -1, () -> x.image(4, 5, 40));
    }

    private static void dueForm(String what, String want, String facts) {
        MergeGraphs x = new MergeGraphs();
        Due.fill(x, 0, facts);
        Due.dueText(what, want, Due.form(x, 0));
        int count = x.size(0, 0);
        Due.due(what + ": no fact behind the last", Due.INDEX, () -> x.form(0, count));
    }

    private static void form() {
        dueForm("names alone", "1 1 2; 3 1 2;", "3 1 2; 1 1 2");
        dueForm("one node", "1 1 40;", "1 1 45");
        dueForm("nodes of names come first", "1 1 40; 2 1 41;", "2 1 40; 1 1 41");
        dueForm("objects before subjects", "1 1 40; 41 0 40;", "1 1 41; 40 0 41");
        dueForm("fewer facts can come later", "40 1 40; 40 1 41; 41 1 40;", "44 1 43; 43 1 44; 44 1 44");
        dueForm("a ring", "40 1 41; 41 1 42; 42 1 43; 43 1 44; 44 1 45; 45 1 40;",
            "40 1 43; 43 1 41; 41 1 44; 44 1 42; 42 1 45; 45 1 40");
        dueForm("twins", "0 0 40; 0 0 41; 0 0 42; 0 0 43; 0 0 44; 0 0 45;",
            "0 0 45; 0 0 44; 0 0 43; 0 0 42; 0 0 41; 0 0 40");
        dueForm("twins and one more", "0 0 40; 0 0 41; 0 0 42; 0 1 40; 43 0 0;",
            "0 0 43; 0 0 41; 0 0 42; 0 1 42; 40 0 0");
        MergeGraphs x = new MergeGraphs();
        Due.fill(x, 0, "1 1 41");
        Due.fill(x, 1, "2 1 41");
        Due.dueText("form of one", "1 1 40;", Due.form(x, 0));
        Due.dueText("form of another", "2 1 40;", Due.form(x, 1));
        x.put(0, 0, 0, 45);
        Due.dueText("form after a fact more", "0 0 40; 1 1 41;", Due.form(x, 0));
        Due.dueText("the graph itself stays", "0 0 45; 1 1 41;", Due.facts(x, 0));
        x.drop(0, 1, 1, 41);
        Due.dueText("form after a fact less", "0 0 40;", Due.form(x, 0));
    }

    private static void wrongInputs() {
        MergeGraphs x = new MergeGraphs();
        Due.fill(x, 0, "1 1 41");
        for (int graph : BAD_GRAPHS) {
            Due.due("alike, first", Due.INDEX, () -> Due.bit(x.alike(graph, 0)));
            Due.due("alike, second", Due.INDEX, () -> Due.bit(x.alike(0, graph)));
            Due.due("image, first", Due.INDEX, () -> x.image(graph, 0, 40));
            Due.due("image, second", Due.INDEX, () -> x.image(0, graph, 3));
            Due.due("form, graph", Due.INDEX, () -> x.form(graph, 0));
        }
        for (int k : new int[] {-1, 1, 30, Integer.MIN_VALUE, Integer.MAX_VALUE}) {
            Due.due("form, fact", Due.INDEX, () -> x.form(0, k));
        }
    }
}
