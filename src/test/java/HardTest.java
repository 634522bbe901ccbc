/** Full graphs with many rows to try: answers known beforehand, in fair time, and no objects made by calls. */
public final class HardTest {
    private static final long MOST_MILLIS = 60_000;

    private HardTest() {
    }

    public static void main(String[] args) {
        long start = System.currentTimeMillis();
        allLinked();
        starWithItsMiddleLast();
        pathsOverFarNodes();
        ringsAmongPairs();
        formsWithMuchLikeness();
        noObjects();
        Due.dueTrue("in fair time", System.currentTimeMillis() - start < MOST_MILLIS);
        Due.end("HardTest");
    }

    private static void allLinked() {
        MergeGraphs x = new MergeGraphs();
        for (int s = 40; s < 46; s++) {
            for (int o = 40; o < 46; o++) {
                if (s != o) {
                    x.put(0, s, 0, o);
                }
            }
        }
        x.copy(0, 1);
        Due.due("lean", 1, () -> Due.bit(x.lean(0)));
        Due.due("core", 0, () -> x.core(0));
        Due.due("alike", 1, () -> Due.bit(x.alike(0, 1)));
        Due.due("image", 45, () -> x.image(0, 1, 45));
        Due.due("form", Due.number(45, 0, 44), () -> x.form(0, 29));
        for (int s = 0; s < 5; s++) {
            for (int o = 0; o < 5; o++) {
                if (s != o) {
                    x.put(2, s, 0, o);
                }
            }
        }
        Due.due("six in five", 0, () -> Due.bit(x.follows(2, 0)));
    }

    private static void starWithItsMiddleLast() {
        MergeGraphs x = new MergeGraphs();
        for (int i = 0; i < 30; i++) {
            x.put(0, i, 0, (i * 7 + 3) % 40);
        }
        for (int i = 40; i < 45; i++) {
            x.put(1, i, 0, 45);
        }
        Due.due("star", 1, () -> Due.bit(x.follows(0, 1)));
        Due.due("star, middle", 3, () -> x.putting(0, 1, 45));
        x.put(1, 45, 1, 45);
        Due.due("star, no such middle", 0, () -> Due.bit(x.follows(0, 1)));
    }

    private static void pathsOverFarNodes() {
        MergeGraphs x = new MergeGraphs();
        for (int i = 0; i < 10; i++) {
            x.put(0, i, 0, i + 10);
            x.put(0, i + 10, 0, i + 20);
            x.put(0, i + 20, 0, (i + 30) % 46);
        }
        Due.fill(x, 1, "40 0 45; 45 0 44; 44 0 41; 42 0 43");
        Due.due("path", 1, () -> Due.bit(x.follows(0, 1)));
        Due.due("path's end", 30, () -> x.putting(0, 1, 41));
        Due.fill(x, 1, "41 0 43");
        Due.due("path too long", 0, () -> Due.bit(x.follows(0, 1)));
    }

    private static void ringsAmongPairs() {
        MergeGraphs x = new MergeGraphs();
        for (int i = 0; i < 15; i++) {
            x.put(0, 2 * i, 0, 2 * i + 1);
            x.put(0, 2 * i + 1, 0, 2 * i);
        }
        Due.fill(x, 1, "40 0 44; 44 0 45; 45 0 40; 41 0 43; 42 0 43");
        Due.due("odd ring", 0, () -> Due.bit(x.follows(0, 1)));
        Due.fill(x, 2, "40 0 45; 45 0 41; 41 0 44; 44 0 42; 42 0 43; 43 0 40");
        Due.due("even ring", 1, () -> Due.bit(x.follows(0, 2)));
        Due.due("even ring, last", 1, () -> x.putting(0, 2, 45));
    }

    private static void formsWithMuchLikeness() {
        MergeGraphs x = new MergeGraphs();
        for (int i = 0; i < 5; i++) {
            for (int node = 40; node < 46; node++) {
                x.put(0, i, i, node);
                x.put(1, node, i, node);
            }
        }
        Due.due("six of one kind, first", 40, () -> x.form(0, 0));
        Due.due("six of one kind, last", Due.number(4, 4, 45), () -> x.form(0, 29));
        Due.due("six loops, last", Due.number(45, 4, 45), () -> x.form(1, 29));
        Due.due("six loops, core", 1, () -> x.core(1));
        Due.fill(x, 2, "40 1 45; 45 1 40; 41 1 44; 44 1 41; 42 1 43; 43 1 42");
        Due.dueText("three pairs", "40 1 41; 41 1 40; 42 1 43; 43 1 42; 44 1 45; 45 1 44;", Due.form(x, 2));
    }

    /** A run of calls shares one room, so calls make nothing: measured as bytes over nearly 512 calls. */
    private static void noObjects() {
        MergeGraphs x = new MergeGraphs();
        Due.fill(x, 0, "1 1 40; 40 1 41; 41 1 42; 42 1 40; 2 1 43; 43 1 44; 44 1 43; 1 1 1");
        allCalls(x);
        com.sun.management.ThreadMXBean threads =
            (com.sun.management.ThreadMXBean) java.lang.management.ManagementFactory.getThreadMXBean();
        threads.getCurrentThreadAllocatedBytes();
        long before = threads.getCurrentThreadAllocatedBytes();
        for (int i = 0; i < 21; i++) {
            allCalls(x);
        }
        long made = threads.getCurrentThreadAllocatedBytes() - before;
        Due.dueTrue("calls make no objects, but made bytes: " + made, made < 1_000);
    }

    private static void allCalls(MergeGraphs x) {
        x.put(0, 3, 3, 3);
        x.drop(0, 3, 3, 3);
        x.copy(0, 1);
        x.size(0, 2);
        x.fact(0, 0);
        x.alike(0, 1);
        x.image(0, 1, 40);
        x.put(1, 1, 5, 45);
        x.form(0, 0);
        x.form(1, 0);
        x.follows(1, 0);
        x.putting(1, 0, 41);
        x.lean(0);
        x.core(1);
        x.join(0, 3, 4);
        x.merge(3, 0, 1, 5);
        x.merge(0, 3, 1, 5);
        x.clash(0, 0);
        x.change(0, 1);
        x.part(0, 0);
        x.apply(1, true);
        x.apply(1, false);
    }
}
