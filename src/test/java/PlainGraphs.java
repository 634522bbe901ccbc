import java.util.ArrayList;
import java.util.List;
import java.util.TreeMap;
import java.util.TreeSet;

/** The document's words put down as they stand, by trying all rows: slow, and only to compare with. */
final class PlainGraphs {
    private final List<TreeSet<Integer>> graphs = new ArrayList<>();
    private List<int[]> clashes = new ArrayList<>();
    private TreeSet<Integer> goes = new TreeSet<>();
    private TreeSet<Integer> comes = new TreeSet<>();

    PlainGraphs() {
        for (int i = 0; i < 6; i++) {
            graphs.add(new TreeSet<>());
        }
    }

    /** What is done with each row found; true if no more are wanted. */
    private interface Taker {
        boolean take(TreeMap<Integer, Integer> row);
    }

    int put(int graph, int s, int v, int o) {
        TreeSet<Integer> g = graph(graph);
        int number = number(s, v, o);
        if (g.contains(number)) {
            return 0;
        }
        if (g.size() == 30) {
            return -1;
        }
        g.add(number);
        return 1;
    }

    int drop(int graph, int s, int v, int o) {
        TreeSet<Integer> g = graph(graph);
        return g.remove(number(s, v, o)) ? 1 : 0;
    }

    int copy(int from, int to) {
        TreeSet<Integer> g = graph(from);
        graph(to);
        graphs.set(to, new TreeSet<>(g));
        return g.size();
    }

    int size(int graph, int what) {
        TreeSet<Integer> g = graph(graph);
        switch (what) {
            case 0: return g.size();
            case 1: return nodes(g).size();
            case 2: return terms(g).size();
            default: throw new IndexOutOfBoundsException();
        }
    }

    int fact(int graph, int k) {
        return pick(new ArrayList<>(graph(graph)), k);
    }

    int image(int a, int b, int node) {
        return termOf(imageRow(graph(a), graph(b)), node);
    }

    boolean alike(int a, int b) {
        return imageRow(graph(a), graph(b)) != null;
    }

    int form(int graph, int k) {
        TreeSet<Integer> g = graph(graph);
        TreeSet<Integer> labels = new TreeSet<>();
        for (int i = 0; i < nodes(g).size(); i++) {
            labels.add(40 + i);
        }
        List<List<Integer>> best = new ArrayList<>();
        rows(new ArrayList<>(nodes(g)), labels, true, null, null, new TreeMap<>(), row -> {
            List<Integer> numbers = new ArrayList<>(mapped(g, row));
            if (best.isEmpty() || before(numbers, best.get(0))) {
                best.clear();
                best.add(numbers);
            }
            return false;
        });
        return pick(best.get(0), k);
    }

    boolean follows(int a, int b) {
        return puttingRow(graph(a), graph(b)) != null;
    }

    int putting(int a, int b, int node) {
        return termOf(puttingRow(graph(a), graph(b)), node);
    }

    boolean lean(int graph) {
        return shrinkingRow(graph(graph)) == null;
    }

    int core(int graph) {
        int times = 0;
        TreeMap<Integer, Integer> row = shrinkingRow(graph(graph));
        while (row != null) {
            graphs.set(graph, mapped(graph(graph), row));
            times++;
            row = shrinkingRow(graph(graph));
        }
        return times;
    }

    int join(int a, int b, int to) {
        TreeSet<Integer> first = graph(a);
        TreeSet<Integer> second = graph(b);
        graph(to);
        TreeSet<Integer> taken = nodes(first);
        TreeMap<Integer, Integer> row = new TreeMap<>();
        for (int node : nodes(second)) {
            int other = 40;
            while (taken.contains(other)) {
                other++;
            }
            if (other > 45) {
                return -1;
            }
            taken.add(other);
            row.put(node, other);
        }
        TreeSet<Integer> all = new TreeSet<>(first);
        all.addAll(mapped(second, row));
        if (all.size() > 30) {
            return -1;
        }
        graphs.set(to, all);
        return all.size();
    }

    int merge(int base, int a, int b, int to) {
        TreeSet<Integer> origin = graph(base);
        TreeSet<Integer> first = graph(a);
        TreeSet<Integer> second = graph(b);
        graph(to);
        TreeSet<Integer> all = new TreeSet<>();
        for (int fact : origin) {
            if (first.contains(fact) && second.contains(fact)) {
                all.add(fact);
            }
        }
        all.addAll(less(first, origin));
        all.addAll(less(second, origin));
        if (all.size() > 30) {
            return -1;
        }
        List<int[]> found = new ArrayList<>();
        for (int term = 0; term < 46; term++) {
            for (int side = 0; side < 2; side++) {
                TreeSet<Integer> mine = side == 0 ? first : second;
                TreeSet<Integer> others = side == 0 ? second : first;
                if (isSubject(origin, term) && !isSubject(mine, term) && terms(less(others, origin)).contains(term)) {
                    found.add(new int[] {term, side});
                }
            }
        }
        clashes = found;
        graphs.set(to, all);
        return found.size();
    }

    int clash(int k, int what) {
        if (k < 0 || k >= clashes.size() || what < 0 || what > 1) {
            throw new IndexOutOfBoundsException();
        }
        return clashes.get(k)[what];
    }

    int change(int a, int b) {
        TreeSet<Integer> first = graph(a);
        TreeSet<Integer> second = graph(b);
        goes = less(first, second);
        comes = less(second, first);
        return goes.size() + comes.size();
    }

    int part(int what, int k) {
        if (what < 0 || what > 1 || k < 0) {
            throw new IndexOutOfBoundsException();
        }
        List<Integer> facts = new ArrayList<>(what == 0 ? goes : comes);
        return k < facts.size() ? facts.get(k) : -1;
    }

    int apply(int graph, boolean back) {
        TreeSet<Integer> g = graph(graph);
        TreeSet<Integer> out = back ? comes : goes;
        TreeSet<Integer> in = back ? goes : comes;
        if (!g.containsAll(out) || less(in, g).size() != in.size()) {
            return 0;
        }
        TreeSet<Integer> all = less(g, out);
        all.addAll(in);
        if (all.size() > 30) {
            return 0;
        }
        graphs.set(graph, all);
        return 1;
    }

    private TreeSet<Integer> graph(int graph) {
        if (graph < 0 || graph > 5) {
            throw new IndexOutOfBoundsException();
        }
        return graphs.get(graph);
    }

    private static int number(int s, int v, int o) {
        if (s < 0 || s > 45 || v < 0 || v > 39 || o < 0 || o > 45) {
            throw new IllegalArgumentException();
        }
        return 4096 * s + 64 * v + o;
    }

    private static int pick(List<Integer> facts, int k) {
        if (k < 0 || k >= facts.size()) {
            throw new IndexOutOfBoundsException();
        }
        return facts.get(k);
    }

    private static int termOf(TreeMap<Integer, Integer> row, int node) {
        return row == null || !row.containsKey(node) ? -1 : row.get(node);
    }

    private static boolean isSubject(TreeSet<Integer> facts, int term) {
        for (int fact : facts) {
            if (fact / 4096 == term) {
                return true;
            }
        }
        return false;
    }

    private static TreeSet<Integer> terms(TreeSet<Integer> facts) {
        TreeSet<Integer> terms = new TreeSet<>();
        for (int fact : facts) {
            terms.add(fact / 4096);
            terms.add(fact % 64);
        }
        return terms;
    }

    private static TreeSet<Integer> nodes(TreeSet<Integer> facts) {
        return new TreeSet<>(terms(facts).tailSet(40));
    }

    private static TreeSet<Integer> less(TreeSet<Integer> facts, TreeSet<Integer> others) {
        TreeSet<Integer> left = new TreeSet<>(facts);
        left.removeAll(others);
        return left;
    }

    private static TreeSet<Integer> mapped(TreeSet<Integer> facts, TreeMap<Integer, Integer> row) {
        TreeSet<Integer> result = new TreeSet<>();
        for (int fact : facts) {
            int s = fact / 4096;
            int o = fact % 64;
            result.add(number(row.getOrDefault(s, s), fact / 64 % 64, row.getOrDefault(o, o)));
        }
        return result;
    }

    private static boolean before(List<Integer> row, List<Integer> other) {
        for (int i = 0; i < row.size(); i++) {
            if (!row.get(i).equals(other.get(i))) {
                return row.get(i) < other.get(i);
            }
        }
        return false;
    }

    private static TreeMap<Integer, Integer> imageRow(TreeSet<Integer> a, TreeSet<Integer> b) {
        if (nodes(a).size() != nodes(b).size()) {
            return null;
        }
        return firstRow(nodes(a), nodes(b), true, null, null, row -> mapped(a, row).equals(b));
    }

    private static TreeMap<Integer, Integer> puttingRow(TreeSet<Integer> ground, TreeSet<Integer> claim) {
        return firstRow(nodes(claim), terms(ground), false, claim, ground, row -> ground.containsAll(mapped(claim, row)));
    }

    private static TreeMap<Integer, Integer> shrinkingRow(TreeSet<Integer> g) {
        return firstRow(nodes(g), terms(g), false, g, g, row -> {
            TreeSet<Integer> result = mapped(g, row);
            return g.containsAll(result) && result.size() < g.size();
        });
    }

    private static TreeMap<Integer, Integer> firstRow(TreeSet<Integer> nodes, TreeSet<Integer> choice, boolean apart,
            TreeSet<Integer> facts, TreeSet<Integer> there, Taker taker) {
        TreeMap<Integer, Integer> row = new TreeMap<>();
        return rows(new ArrayList<>(nodes), choice, apart, facts, there, row, taker) ? row : null;
    }

    /** All rows in order; where facts are given, only those that keep the facts without open nodes there. */
    private static boolean rows(List<Integer> nodes, TreeSet<Integer> choice, boolean apart,
            TreeSet<Integer> facts, TreeSet<Integer> there, TreeMap<Integer, Integer> row, Taker taker) {
        if (row.size() == nodes.size()) {
            return taker.take(row);
        }
        int node = nodes.get(row.size());
        for (int term : choice) {
            if (!apart || !row.containsValue(term)) {
                row.put(node, term);
                boolean can = facts == null || closedFactsAreThere(facts, there, row);
                if (can && rows(nodes, choice, apart, facts, there, row, taker)) {
                    return true;
                }
                row.remove(node);
            }
        }
        return false;
    }

    private static boolean closedFactsAreThere(TreeSet<Integer> facts, TreeSet<Integer> there, TreeMap<Integer, Integer> row) {
        for (int fact : facts) {
            int s = fact / 4096;
            int o = fact % 64;
            boolean closed = (s < 40 || row.containsKey(s)) && (o < 40 || row.containsKey(o));
            if (closed && !there.contains(number(row.getOrDefault(s, s), fact / 64 % 64, row.getOrDefault(o, o)))) {
                return false;
            }
        }
        return true;
    }
}
