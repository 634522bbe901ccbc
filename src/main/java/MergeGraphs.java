/**
 * Graphs of facts with nodes that have no names: likeness, form, what follows, cores, joins, merges
 * and changes. What each call answers is promised in ../shared/DOC.md.
 *
 * All rows are made once, with the object, so that no call makes anything.
 */
public final class MergeGraphs {
    public static final int NONE = -1;

    private static final int GRAPHS = 6;
    private static final int MOST_FACTS = 30;
    private static final int NAMES = 40;
    private static final int TERMS = 46;
    private static final int NODES = TERMS - NAMES;
    private static final long ALL_NODES = ((1L << NODES) - 1) << NAMES;

    private final Graph[] graphs = new Graph[GRAPHS];
    /** A result stands here until it is sure: it may not fit, and its graph may be one it comes from. */
    private final Graph draft = new Graph();
    private final Graph goes = new Graph();
    private final Graph comes = new Graph();
    /** Twice its term and its side together, for each clash: so their order is that of numbers. */
    private final int[] clashes = new int[2 * TERMS];
    private int clashCount = 0;
    private final int[] newTerms = new int[NODES];
    private final Search search = new Search();
    private final FormFinder formFinder = new FormFinder();

    public MergeGraphs() {
        for (int i = 0; i < GRAPHS; i++) {
            graphs[i] = new Graph();
        }
    }

    public int put(int graph, int s, int v, int o) throws IndexOutOfBoundsException, IllegalArgumentException {
        Graph changed = graphAt(graph);
        return changed.insert(checkedNumber(s, v, o));
    }

    public int drop(int graph, int s, int v, int o) throws IndexOutOfBoundsException, IllegalArgumentException {
        Graph changed = graphAt(graph);
        return changed.erase(checkedNumber(s, v, o));
    }

    public int copy(int from, int to) throws IndexOutOfBoundsException {
        Graph source = graphAt(from);
        Graph target = graphAt(to);
        target.become(source);
        return target.count();
    }

    public int size(int graph, int what) throws IndexOutOfBoundsException {
        Graph asked = graphAt(graph);
        switch (what) {
            case 0:
                return asked.count();
            case 1:
                return Long.bitCount(asked.nodes());
            case 2:
                return Long.bitCount(asked.terms());
            default:
                throw new IndexOutOfBoundsException("there is no such what");
        }
    }

    public int fact(int graph, int k) throws IndexOutOfBoundsException {
        Graph asked = graphAt(graph);
        checkFact(asked, k);
        return asked.at(k);
    }

    public boolean alike(int a, int b) throws IndexOutOfBoundsException {
        Graph first = graphAt(a);
        Graph second = graphAt(b);
        return findImage(first, second);
    }

    public int image(int a, int b, int node) throws IndexOutOfBoundsException {
        Graph first = graphAt(a);
        Graph second = graphAt(b);
        return findImage(first, second) ? search.termFor(node) : NONE;
    }

    public int form(int graph, int k) throws IndexOutOfBoundsException {
        Graph asked = graphAt(graph);
        checkFact(asked, k);
        return formFinder.numberAt(asked, k);
    }

    public boolean follows(int a, int b) throws IndexOutOfBoundsException {
        Graph ground = graphAt(a);
        Graph claim = graphAt(b);
        return search.find(claim, ground, ground.terms(), false);
    }

    public int putting(int a, int b, int node) throws IndexOutOfBoundsException {
        Graph ground = graphAt(a);
        Graph claim = graphAt(b);
        return search.find(claim, ground, ground.terms(), false) ? search.termFor(node) : NONE;
    }

    public boolean lean(int graph) throws IndexOutOfBoundsException {
        Graph asked = graphAt(graph);
        return !findShrinkingRow(asked, true);
    }

    public int core(int graph) throws IndexOutOfBoundsException {
        Graph changed = graphAt(graph);
        int times = 0;
        // A row that makes fewer facts leaves out a node at least, so there are no more rounds than nodes.
        while (times < NODES && findShrinkingRow(changed, false)) {
            draft.clear();
            draft.insertRenamed(changed, newTerms);
            changed.become(draft);
            times++;
        }
        return times;
    }

    public int join(int a, int b, int to) throws IndexOutOfBoundsException {
        Graph first = graphAt(a);
        Graph second = graphAt(b);
        Graph result = graphAt(to);
        if (!chooseOtherNodes(first.nodes(), second.nodes())) {
            return NONE;
        }
        draft.become(first);
        if (!draft.insertRenamed(second, newTerms)) {
            return NONE;
        }
        result.become(draft);
        return result.count();
    }

    public int merge(int base, int a, int b, int to) throws IndexOutOfBoundsException {
        Graph origin = graphAt(base);
        Graph first = graphAt(a);
        Graph second = graphAt(b);
        Graph result = graphAt(to);
        if (!draftMerged(origin, first, second)) {
            return NONE;
        }
        noteClashes(clashTerms(origin, first, second), clashTerms(origin, second, first));
        result.become(draft);
        return clashCount;
    }

    public int clash(int k, int what) throws IndexOutOfBoundsException {
        if (k < 0 || k >= clashCount) {
            throw new IndexOutOfBoundsException("there is no such clash");
        }
        checkOneOfTwo(what);
        return what == 0 ? clashes[k] >> 1 : clashes[k] & 1;
    }

    public int change(int a, int b) throws IndexOutOfBoundsException {
        Graph first = graphAt(a);
        Graph second = graphAt(b);
        goes.clear();
        goes.insertMissing(first, second);
        comes.clear();
        comes.insertMissing(second, first);
        return goes.count() + comes.count();
    }

    public int part(int what, int k) throws IndexOutOfBoundsException {
        checkOneOfTwo(what);
        if (k < 0) {
            throw new IndexOutOfBoundsException("there is no such fact");
        }
        return what == 0 ? goes.at(k) : comes.at(k);
    }

    public int apply(int graph, boolean back) throws IndexOutOfBoundsException {
        Graph changed = graphAt(graph);
        Graph leaving = back ? comes : goes;
        Graph coming = back ? goes : comes;
        boolean fits = changed.count() - leaving.count() + coming.count() <= MOST_FACTS;
        if (!fits || changed.countShared(leaving) != leaving.count() || changed.countShared(coming) != 0) {
            return 0;
        }
        changed.eraseAll(leaving);
        changed.insertAll(coming);
        return 1;
    }

    private Graph graphAt(int graph) {
        if (graph < 0 || graph >= GRAPHS) {
            throw new IndexOutOfBoundsException("there is no such graph");
        }
        return graphs[graph];
    }

    private static void checkFact(Graph graph, int k) {
        if (k < 0 || k >= graph.count()) {
            throw new IndexOutOfBoundsException("there is no such fact");
        }
    }

    private static void checkOneOfTwo(int what) {
        if (what != 0 && what != 1) {
            throw new IndexOutOfBoundsException("there is no such what");
        }
    }

    private static int checkedNumber(int s, int v, int o) {
        if (s < 0 || s >= TERMS || o < 0 || o >= TERMS) {
            throw new IllegalArgumentException("there is no such term");
        }
        if (v < 0 || v >= NAMES) {
            throw new IllegalArgumentException("there is no such verb");
        }
        return numberOf(s, v, o);
    }

    private static int numberOf(int subject, int verb, int object) {
        return (subject << 12) + (verb << 6) + object;
    }

    private static int subjectOf(int number) {
        return number >> 12;
    }

    private static int verbOf(int number) {
        return number >> 6 & 63;
    }

    private static int objectOf(int number) {
        return number & 63;
    }

    private static boolean isNode(int term) {
        return term >= NAMES && term < TERMS;
    }

    private static boolean isIn(long set, int term) {
        return (set & 1L << term) != 0;
    }

    private static int renamed(int number, int[] row) {
        return numberOf(putFor(subjectOf(number), row), verbOf(number), putFor(objectOf(number), row));
    }

    /** A row has a term for each node; names stay what they are. */
    private static int putFor(int term, int[] row) {
        int i = term - NAMES;
        return i >= 0 && i < row.length ? row[i] : term;
    }

    private static boolean isBefore(int[] row, int[] other, int length) {
        for (int i = 0; i < length && i < row.length && i < other.length; i++) {
            if (row[i] != other[i]) {
                return row[i] < other[i];
            }
        }
        return false;
    }

    private boolean findImage(Graph first, Graph second) {
        // With as many facts and nodes in both, it is enough that the facts of the first find theirs:
        // nodes kept apart keep facts apart, so none of the second is left over.
        return first.count() == second.count()
            && Long.bitCount(first.nodes()) == Long.bitCount(second.nodes())
            && search.find(first, second, second.nodes(), true);
    }

    /**
     * A row of terms makes fewer facts just if a node is put for none: were each one put for some
     * node, nodes would change places only, and the facts would stay as many. So the first such row
     * is the first of the first rows that do without one node or another.
     */
    private boolean findShrinkingRow(Graph graph, boolean anyWillDo) {
        boolean found = false;
        for (int node = NAMES; node < TERMS && !(found && anyWillDo); node++) {
            long otherTerms = graph.terms() & ~(1L << node);
            if (isIn(graph.nodes(), node) && search.find(graph, graph, otherTerms, false)
                && (!found || search.rowIsBefore(newTerms))) {
                search.giveRow(newTerms);
                found = true;
            }
        }
        return found;
    }

    private boolean chooseOtherNodes(long taken, long renamed) {
        long free = ALL_NODES & ~taken;
        for (int i = 0; i < NODES; i++) {
            newTerms[i] = NONE;
            if (isIn(renamed, NAMES + i)) {
                if (free == 0) {
                    return false;
                }
                newTerms[i] = lowestOf(free);
                free &= free - 1;
            }
        }
        return true;
    }

    private static int lowestOf(long set) {
        return Long.bitCount((set & -set) - 1);
    }

    private boolean draftMerged(Graph origin, Graph first, Graph second) {
        draft.clear();
        draft.insertKept(origin, first, second);
        return draft.insertMissing(first, origin) && draft.insertMissing(second, origin);
    }

    /** The terms that one side has lost as subjects while the other side says something new of them. */
    private static long clashTerms(Graph origin, Graph loser, Graph other) {
        return origin.subjects() & ~loser.subjects() & other.termsMissing(origin);
    }

    private void noteClashes(long ofFirst, long ofSecond) {
        clashCount = 0;
        for (int code = 0; code < 2 * TERMS; code++) {
            long ofSide = (code & 1) == 0 ? ofFirst : ofSecond;
            if (isIn(ofSide, code >> 1) && clashCount < clashes.length) {
                clashes[clashCount] = code;
                clashCount++;
            }
        }
    }

    /** A set of facts, as their numbers in order. */
    private static final class Graph {
        private final int[] numbers = new int[MOST_FACTS];
        private int count = 0;

        int count() {
            return count;
        }

        int at(int k) {
            return k >= 0 && k < count ? numbers[k] : NONE;
        }

        boolean has(int number) {
            return at(placeOf(number)) == number;
        }

        /** How many facts are less; the steps reach all of the 30, as 16 + 8 + 4 + 2 + 1 is 31. */
        private int placeOf(int number) {
            int place = 0;
            for (int step = 16; step > 0; step >>= 1) {
                int next = place + step;
                if (next <= count && numbers[next - 1] < number) {
                    place = next;
                }
            }
            return place;
        }

        int insert(int number) {
            int place = placeOf(number);
            if (at(place) == number) {
                return 0;
            }
            if (count >= MOST_FACTS) {
                return NONE;
            }
            for (int i = count; i > place; i--) {
                numbers[i] = numbers[i - 1];
            }
            numbers[place] = number;
            count++;
            return 1;
        }

        int erase(int number) {
            int place = placeOf(number);
            if (at(place) != number) {
                return 0;
            }
            count--;
            for (int i = place; i < count; i++) {
                numbers[i] = numbers[i + 1];
            }
            return 1;
        }

        void clear() {
            count = 0;
        }

        void become(Graph other) {
            count = other.count;
            for (int i = 0; i < count; i++) {
                numbers[i] = other.numbers[i];
            }
        }

        boolean isSame(Graph other) {
            return count == other.count && isSameRow(other.numbers);
        }

        boolean isSameRow(int[] row) {
            for (int i = 0; i < count && i < row.length; i++) {
                if (numbers[i] != row[i]) {
                    return false;
                }
            }
            return true;
        }

        int countShared(Graph other) {
            int shared = 0;
            for (int i = 0; i < count; i++) {
                if (other.has(numbers[i])) {
                    shared++;
                }
            }
            return shared;
        }

        void eraseAll(Graph other) {
            for (int i = 0; i < other.count; i++) {
                erase(other.numbers[i]);
            }
        }

        void insertAll(Graph other) {
            for (int i = 0; i < other.count; i++) {
                insert(other.numbers[i]);
            }
        }

        /** Takes the facts of one graph that another one has not; false if they do not fit. */
        boolean insertMissing(Graph from, Graph other) {
            for (int i = 0; i < from.count; i++) {
                int number = from.numbers[i];
                if (!other.has(number) && insert(number) == NONE) {
                    return false;
                }
            }
            return true;
        }

        void insertKept(Graph origin, Graph first, Graph second) {
            for (int i = 0; i < origin.count; i++) {
                int number = origin.numbers[i];
                if (first.has(number) && second.has(number)) {
                    insert(number);
                }
            }
        }

        /** Takes the facts of a graph with a row of terms put for its nodes; false if they do not fit. */
        boolean insertRenamed(Graph from, int[] row) {
            for (int i = 0; i < from.count; i++) {
                if (insert(renamed(from.numbers[i], row)) == NONE) {
                    return false;
                }
            }
            return true;
        }

        long subjects() {
            long set = 0;
            for (int i = 0; i < count; i++) {
                set |= 1L << subjectOf(numbers[i]);
            }
            return set;
        }

        long terms() {
            long set = 0;
            for (int i = 0; i < count; i++) {
                set |= 1L << subjectOf(numbers[i]) | 1L << objectOf(numbers[i]);
            }
            return set;
        }

        long nodes() {
            return terms() & ALL_NODES;
        }

        /** The terms of the facts that another graph has not. */
        long termsMissing(Graph other) {
            long set = 0;
            for (int i = 0; i < count; i++) {
                if (!other.has(numbers[i])) {
                    set |= 1L << subjectOf(numbers[i]) | 1L << objectOf(numbers[i]);
                }
            }
            return set;
        }
    }

    /**
     * Finds the first row of terms that can be put for a pattern's nodes so that its facts are all in a
     * target. Nodes get their terms by their numbers, the least term first, so the first row found is
     * the first in order. Each node has a choice of terms that are still open to it; a choice that is
     * down to one term narrows the choices of the nodes it shares facts with, so that most dead ends
     * show before they are walked into.
     */
    private static final class Search {
        /** Each turn of narrowing ends a node's turn; it gets another one only for a term less. */
        private static final int MOST_TURNS = NODES + NODES * TERMS;

        private final Graph pattern = new Graph();
        private boolean keepsApart = false;
        /** The pattern's facts between two nodes. */
        private final int[] links = new int[MOST_FACTS];
        private int linkCount = 0;
        /** The nodes' choices before each level; only that of a node that the pattern has not is empty. */
        private final long[][] choices = new long[NODES + 1][NODES];
        /** By verb and subject the objects that the target has, and by verb and object the subjects. */
        private final long[] objects = new long[NAMES * TERMS];
        private final long[] subjects = new long[NAMES * TERMS];
        private final int[] row = new int[NODES];

        boolean find(Graph wanted, Graph target, long open, boolean apart) {
            pattern.become(wanted);
            keepsApart = apart;
            mark(target);
            boolean found = start(open) && settle(0);
            unmark(target);
            return found;
        }

        int termFor(int node) {
            return isNode(node) ? row[node - NAMES] : NONE;
        }

        boolean rowIsBefore(int[] other) {
            return isBefore(row, other, NODES);
        }

        void giveRow(int[] to) {
            for (int i = 0; i < NODES && i < to.length; i++) {
                to[i] = row[i];
            }
        }

        private static long marked(long[] table, int verb, int term) {
            int cell = verb * TERMS + term;
            return cell >= 0 && cell < table.length ? table[cell] : 0;
        }

        private static void setMarked(long[] table, int verb, int term, long set) {
            int cell = verb * TERMS + term;
            if (cell >= 0 && cell < table.length) {
                table[cell] = set;
            }
        }

        private void mark(Graph target) {
            for (int i = 0; i < target.count(); i++) {
                int number = target.at(i);
                int subject = subjectOf(number);
                int verb = verbOf(number);
                int object = objectOf(number);
                setMarked(objects, verb, subject, marked(objects, verb, subject) | 1L << object);
                setMarked(subjects, verb, object, marked(subjects, verb, object) | 1L << subject);
            }
        }

        /** Only what was marked is wiped out: that is far less than the whole tables. */
        private void unmark(Graph target) {
            for (int i = 0; i < target.count(); i++) {
                int number = target.at(i);
                setMarked(objects, verbOf(number), subjectOf(number), 0);
                setMarked(subjects, verbOf(number), objectOf(number), 0);
            }
        }

        private boolean start(long open) {
            long[] choice = choices[0];
            long nodes = pattern.nodes();
            if (nodes != 0 && open == 0) {
                return false;
            }
            for (int i = 0; i < NODES; i++) {
                choice[i] = isIn(nodes, NAMES + i) ? open : 0;
            }
            linkCount = 0;
            for (int i = 0; i < pattern.count(); i++) {
                if (!takeIn(choice, pattern.at(i))) {
                    return false;
                }
            }
            return narrow(choice, (1 << NODES) - 1, true);
        }

        /** A fact with one node or none says all that it can at once; those with two nodes are links. */
        private boolean takeIn(long[] choice, int number) {
            int subject = subjectOf(number);
            int verb = verbOf(number);
            int object = objectOf(number);
            if (!isNode(subject) && !isNode(object)) {
                return isIn(marked(objects, verb, subject), object);
            }
            if (!isNode(subject)) {
                return limit(choice, object - NAMES, marked(objects, verb, subject));
            }
            if (!isNode(object)) {
                return limit(choice, subject - NAMES, marked(subjects, verb, object));
            }
            if (subject == object) {
                return limit(choice, subject - NAMES, loops(verb));
            }
            return addLink(number);
        }

        private boolean addLink(int number) {
            if (linkCount >= links.length) {
                return false;
            }
            links[linkCount] = number;
            linkCount++;
            return true;
        }

        private static boolean limit(long[] choice, int i, long set) {
            return keepOnly(choice, i, set) != NONE;
        }

        private long loops(int verb) {
            long set = 0;
            for (int term = 0; term < TERMS; term++) {
                set |= marked(objects, verb, term) & 1L << term;
            }
            return set;
        }

        private boolean settle(int level) {
            if (level >= NODES) {
                writeRow();
                return true;
            }
            long left = choices[level][level];
            if (left == 0) {
                copyChoices(level);
                return settle(level + 1);
            }
            for (int tries = Long.bitCount(left); tries > 0; tries--) {
                long term = left & -left;
                left ^= term;
                copyChoices(level);
                choices[level + 1][level] = term;
                if (narrow(choices[level + 1], 1 << level, false) && settle(level + 1)) {
                    return true;
                }
            }
            return false;
        }

        private void copyChoices(int level) {
            for (int i = 0; i < NODES; i++) {
                choices[level + 1][i] = choices[level][i];
            }
        }

        private void writeRow() {
            for (int i = 0; i < NODES; i++) {
                row[i] = choices[NODES][i] == 0 ? NONE : lowestOf(choices[NODES][i]);
            }
        }

        /**
         * Takes from the choices what the links rule out, beginning with the changed nodes; false if a
         * node has no choice left. Choices of several terms are looked at only if it is wanted (wide):
         * that pays once, at the start, and later costs more than it saves.
         */
        private boolean narrow(long[] choice, int changed, boolean wide) {
            int waiting = changed;
            for (int turn = 0; turn < MOST_TURNS && waiting != 0; turn++) {
                int i = lowestOf(waiting);
                waiting &= waiting - 1;
                long own = i < choice.length ? choice[i] : 0;
                boolean single = (own & (own - 1)) == 0;
                if (own != 0 && (wide || single)) {
                    int narrowed = narrowLinked(choice, i, own);
                    if (narrowed >= 0 && single && keepsApart) {
                        narrowed |= narrowOthers(choice, i, own);
                    }
                    if (narrowed < 0) {
                        return false;
                    }
                    waiting |= narrowed;
                }
            }
            return true;
        }

        /** Which nodes have less choice now; NONE (all bits set, so that | keeps it) if one has none. */
        private int narrowLinked(long[] choice, int i, long own) {
            int narrowed = 0;
            for (int k = 0; k < linkCount && k < links.length; k++) {
                int subject = subjectOf(links[k]) - NAMES;
                int object = objectOf(links[k]) - NAMES;
                if (subject == i) {
                    narrowed |= keepOnly(choice, object, reach(objects, verbOf(links[k]), own));
                } else if (object == i) {
                    narrowed |= keepOnly(choice, subject, reach(subjects, verbOf(links[k]), own));
                }
                if (narrowed < 0) {
                    return NONE;
                }
            }
            return narrowed;
        }

        private static int narrowOthers(long[] choice, int i, long own) {
            int narrowed = 0;
            for (int other = 0; other < choice.length; other++) {
                if (other != i && choice[other] != 0) {
                    narrowed |= keepOnly(choice, other, ~own);
                }
            }
            return narrowed;
        }

        private static int keepOnly(long[] choice, int i, long set) {
            long kept = i >= 0 && i < choice.length ? choice[i] & set : 0;
            if (kept == 0) {
                return NONE;
            }
            if (kept == choice[i]) {
                return 0;
            }
            choice[i] = kept;
            return 1 << i;
        }

        private static long reach(long[] table, int verb, long from) {
            long reached = 0;
            long left = from;
            for (int tries = Long.bitCount(left); tries > 0; tries--) {
                reached |= marked(table, verb, Long.bitCount((left & -left) - 1));
                left &= left - 1;
            }
            return reached;
        }
    }

    /**
     * Finds the form of a graph: labels 40, 41 and so on are given to its nodes in all ways that could
     * still lead to a row before the best one. The latest form is kept with the graph it belongs to, as
     * its facts are asked for one after another.
     */
    private static final class FormFinder {
        private final Graph source = new Graph();
        private final int[] labels = new int[NODES];
        private final int[] row = new int[MOST_FACTS];
        private final int[] best = new int[MOST_FACTS];
        private boolean hasBest = false;
        /** For each node those before it that it can change places with, and no fact changes. */
        private final int[] twins = new int[NODES];

        int numberAt(Graph graph, int k) {
            if (!source.isSame(graph)) {
                source.become(graph);
                hasBest = false;
                findTwins();
                giveLabel(0, nodeBits());
            }
            return k >= 0 && k < source.count() ? best[k] : NONE;
        }

        private int nodeBits() {
            return (int) (source.nodes() >> NAMES);
        }

        private void findTwins() {
            int nodes = nodeBits();
            for (int i = 0; i < NODES; i++) {
                twins[i] = 0;
                for (int j = 0; j < i; j++) {
                    if (isIn(nodes, i) && isIn(nodes, j) && canSwap(i, j)) {
                        twins[i] |= 1 << j;
                    }
                }
            }
        }

        private boolean canSwap(int i, int j) {
            for (int k = 0; k < NODES; k++) {
                labels[k] = NAMES + k;
            }
            labels[i] = NAMES + j;
            labels[j] = NAMES + i;
            writeRow();
            return source.isSameRow(row);
        }

        /**
         * The nodes that are left all get the least label that is left, for the time being. No number of
         * the row is then greater than it will be in the end, so a row that is not before the best one
         * can't lead to one that is. With one node left the row is the true one.
         */
        private void giveLabel(int given, int left) {
            int label = NAMES + given;
            for (int i = 0; i < NODES; i++) {
                if (isIn(left, i)) {
                    labels[i] = label;
                }
            }
            writeRow();
            if (hasBest && !isBefore(row, best, source.count())) {
                return;
            }
            if ((left & (left - 1)) == 0 || given >= NODES) {
                keepRow();
                return;
            }
            for (int i = 0; i < NODES; i++) {
                // Of twins that are both left, the first one has shown already what the other would.
                if (isIn(left, i) && (twins[i] & left) == 0) {
                    labels[i] = label;
                    giveLabel(given + 1, left & ~(1 << i));
                }
            }
        }

        private void writeRow() {
            for (int i = 0; i < source.count(); i++) {
                int number = renamed(source.at(i), labels);
                int place = i;
                for (; place > 0 && row[place - 1] > number; place--) {
                    row[place] = row[place - 1];
                }
                row[place] = number;
            }
        }

        private void keepRow() {
            hasBest = true;
            for (int i = 0; i < source.count(); i++) {
                best[i] = row[i];
            }
        }
    }
}
