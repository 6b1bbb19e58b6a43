/**
 * How closely a graph of at most 12 nodes hangs together, and rows of degrees that are judged and
 * made graphs. The words used here (core, peeling, layer, truss, firmness, ..) are the document's.
 *
 * <p>A set of nodes is an int whose bit v stands for node v. No call makes an object: all calls of
 * a run share one room, so the arrays that a call works in are made with the object and used again.
 */
public final class DegreeCores {
    private static final int MOST_NODES = 12;
    private static final int MOST_NUMBERS = 12;
    private static final int GREATEST_NUMBER = 20;
    private static final int MOST_EDGES = 66;
    private static final int LEAST_TRUSS = 2;

    /** Euclid's way needs fewer than 50 divisions for any two ints. */
    private static final int MOST_DIVISIONS = 50;

    private static final int NO_SUCH = -1;
    private static final int OUTSIDE = -2;
    private static final int NONE = -3;
    private static final int NO_ROOM = -4;

    /** For each node the set of those that it is joined with. */
    private final int[] joins;
    private int nodes;

    private final int[] row;
    private int numbers;

    private final int[] trussJoins;
    private final int[] madeJoins;
    private final int[] wants;

    public DegreeCores() {
        joins = new int[MOST_NODES];
        trussJoins = new int[MOST_NODES];
        madeJoins = new int[MOST_NUMBERS];
        row = new int[MOST_NUMBERS];
        wants = new int[MOST_NUMBERS];
        nodes = 0;
        numbers = 0;
    }

    // ---- the graph

    public int node() {
        if (nodes >= MOST_NODES) {
            return NO_ROOM;
        }
        joins[nodes] = 0;
        nodes++;
        return nodes - 1;
    }

    public int join(int a, int b, boolean is) {
        if (!areTwoNodes(a, b)) {
            return NO_SUCH;
        }
        if (has(joins[a], b) == is) {
            return 0;
        }
        joins[a] ^= 1 << b;
        joins[b] ^= 1 << a;
        return 1;
    }

    public int joined(int a, int b) {
        if (!areTwoNodes(a, b)) {
            return NO_SUCH;
        }
        return has(joins[a], b) ? 1 : 0;
    }

    public int clear() {
        int before = nodes;
        nodes = 0;
        return before;
    }

    private boolean isNode(int v) {
        return v >= 0 && v < nodes;
    }

    private boolean areTwoNodes(int a, int b) {
        return isNode(a) && isNode(b) && a != b;
    }

    private boolean isEdge(int a, int b) {
        return areTwoNodes(a, b) && has(joins[a], b);
    }

    private int allNodes() {
        return (1 << nodes) - 1;
    }

    private int degreeWithin(int set, int v) {
        return Integer.bitCount(joins[v] & set);
    }

    private int edgesWithin(int set) {
        int ends = 0;
        for (int v = 0; v < nodes; v++) {
            if (has(set, v)) {
                ends += degreeWithin(set, v);
            }
        }
        return ends / 2;
    }

    private static boolean has(int set, int v) {
        return ((set >> v) & 1) == 1;
    }

    /** The least node of a set that is not empty. */
    private static int leastOf(int set) {
        return Integer.bitCount((set & -set) - 1);
    }

    // ---- cores

    public int degree(int node) {
        return isNode(node) ? Integer.bitCount(joins[node]) : NO_SUCH;
    }

    public int core(int node) {
        if (!isNode(node)) {
            return NO_SUCH;
        }
        int number = 0;
        for (int k = 1; k < nodes && has(coreBits(k), node); k++) {
            number = k;
        }
        return number;
    }

    public int coreSet(int k) {
        return k < 0 ? OUTSIDE : coreBits(k);
    }

    public int peeled(int i) {
        // There are as many turns as nodes, so a turn has a number like a node's.
        if (!isNode(i)) {
            return NO_SUCH;
        }
        int left = allNodes();
        int taken = NO_SUCH;
        for (int turn = 0; turn <= i; turn++) {
            taken = leastOf(looseIn(left, leastDegreeWithin(left)));
            left &= ~(1 << taken);
        }
        return taken;
    }

    public int layer(int node) {
        if (!isNode(node)) {
            return NO_SUCH;
        }
        int left = allNodes();
        int k = 0;
        int number = 0;
        // Each layer holds a node at least, so there are no more layers than nodes.
        while (number < nodes && has(left, node)) {
            k = Math.max(k, leastDegreeWithin(left));
            left &= ~looseIn(left, k);
            number++;
        }
        return number;
    }

    private int coreBits(int k) {
        int left = allNodes();
        // A round that takes none away is the last that could, so as many rounds as nodes do.
        for (int round = 0; round < nodes; round++) {
            left &= ~looseIn(left, k - 1);
        }
        return left;
    }

    /** Those of a set that are joined with at most so many of it. */
    private int looseIn(int set, int most) {
        int loose = 0;
        for (int v = 0; v < nodes; v++) {
            if (has(set, v) && degreeWithin(set, v) <= most) {
                loose |= 1 << v;
            }
        }
        return loose;
    }

    private int leastDegreeWithin(int set) {
        int least = MOST_NODES;
        for (int v = 0; v < nodes; v++) {
            if (has(set, v)) {
                least = Math.min(least, degreeWithin(set, v));
            }
        }
        return least;
    }

    // ---- triangles

    public int triangles() {
        return triangleCorners() / 3;
    }

    public int triangle(int i, int which) {
        int before = 0;
        for (int a = 0; a < nodes; a++) {
            for (int b = a + 1; b < nodes; b++) {
                for (int c = b + 1; c < nodes; c++) {
                    if (!isTriangle(a, b, c)) {
                        continue;
                    }
                    if (before == i) {
                        return corner(a, b, c, which);
                    }
                    before++;
                }
            }
        }
        return NO_SUCH;
    }

    public int support(int a, int b) {
        return isEdge(a, b) ? Integer.bitCount(joins[a] & joins[b]) : NO_SUCH;
    }

    public int truss(int a, int b) {
        if (!isEdge(a, b)) {
            return NO_SUCH;
        }
        System.arraycopy(joins, 0, trussJoins, 0, nodes);
        int number = LEAST_TRUSS;
        // An edge lies in at most nodes - 2 triangles, so no truss number is above nodes.
        for (int k = LEAST_TRUSS + 1; k <= nodes; k++) {
            shrinkToTruss(k);
            if (!has(trussJoins[a], b)) {
                return number;
            }
            number = k;
        }
        return number;
    }

    public int cluster(int node, int part) {
        if (!isNode(node)) {
            return NO_SUCH;
        }
        if (!isPart(part)) {
            return OUTSIDE;
        }
        return share(trianglesAt(node), pairsAt(node), part);
    }

    public int closed(int part) {
        if (!isPart(part)) {
            return OUTSIDE;
        }
        int paths = 0;
        for (int v = 0; v < nodes; v++) {
            paths += pairsAt(v);
        }
        return share(triangleCorners(), paths, part);
    }

    private boolean isTriangle(int a, int b, int c) {
        return has(joins[a], b) && has(joins[a], c) && has(joins[b], c);
    }

    private static int corner(int a, int b, int c, int which) {
        switch (which) {
            case 0:
                return a;
            case 1:
                return b;
            case 2:
                return c;
            default:
                return OUTSIDE;
        }
    }

    private int trianglesAt(int v) {
        return edgesWithin(joins[v]);
    }

    private int pairsAt(int v) {
        return pairsOf(Integer.bitCount(joins[v]));
    }

    /** Three times the triangles, as each is counted at each of its nodes. */
    private int triangleCorners() {
        int corners = 0;
        for (int v = 0; v < nodes; v++) {
            corners += trianglesAt(v);
        }
        return corners;
    }

    private void shrinkToTruss(int k) {
        boolean shrinks = true;
        for (int round = 0; shrinks && round < MOST_EDGES; round++) {
            shrinks = dropEdgesBelow(k - 2);
        }
    }

    /** Takes edges away that lie in too few triangles of those left; whether there were any. */
    private boolean dropEdgesBelow(int fewest) {
        boolean dropped = false;
        for (int a = 0; a < nodes; a++) {
            for (int b = a + 1; b < nodes; b++) {
                if (has(trussJoins[a], b) && Integer.bitCount(trussJoins[a] & trussJoins[b]) < fewest) {
                    trussJoins[a] &= ~(1 << b);
                    trussJoins[b] &= ~(1 << a);
                    dropped = true;
                }
            }
        }
        return dropped;
    }

    // ---- densest, firm

    public int densest() {
        return nodes == 0 ? NONE : densestBits();
    }

    public int density(int part) {
        if (!isPart(part)) {
            return OUTSIDE;
        }
        int set = densestBits();
        return share(edgesWithin(set), Integer.bitCount(set), part);
    }

    public int firm(int a, int b) {
        if (!areTwoNodes(a, b)) {
            return NO_SUCH;
        }
        int least = Integer.bitCount(joins[a]);
        int set = 0;
        int cut = 0;
        int steps = cutSteps();
        for (int step = 1; step < steps; step++) {
            int v = leastOf(step);
            cut += cutChange(set, v);
            set ^= 1 << v;
            if (has(set, a) != has(set, b)) {
                least = Math.min(least, cut);
            }
        }
        return least;
    }

    public int classOf(int node, int k) {
        if (!isNode(node)) {
            return NO_SUCH;
        }
        if (k < 0) {
            return OUTSIDE;
        }
        return leastOf(classBits(node, k));
    }

    /**
     * Of all sets, the greatest of those whose quotient is the greatest: two such sets together are
     * such a set too, so the greatest has all others in it. Empty where there are no nodes.
     *
     * <p>Each step puts one node in or out, the one that the step's lowest bit names (a Gray code):
     * so every set comes once, and edges are counted along instead of anew for each set. Steps are
     * above 0 and below 2 to the power of nodes, so that bit always names a node.
     */
    private int densestBits() {
        int best = 0;
        int bestEdges = 0;
        int set = 0;
        int edges = 0;
        int steps = 1 << nodes;
        for (int step = 1; step < steps; step++) {
            int v = leastOf(step);
            edges += has(set, v) ? -degreeWithin(set, v) : degreeWithin(set, v);
            set ^= 1 << v;
            if (isDenser(edges, Integer.bitCount(set), bestEdges, Integer.bitCount(best))) {
                best = set;
                bestEdges = edges;
            }
        }
        return best;
    }

    private static boolean isDenser(int edges, int size, int otherEdges, int otherSize) {
        int here = edges * otherSize;
        int there = otherEdges * size;
        return here > there || (here == there && size > otherSize);
    }

    /** The nodes that no cut of fewer than k edges parts from this one. */
    private int classBits(int node, int k) {
        int together = allNodes();
        int set = 0;
        int cut = 0;
        int steps = cutSteps();
        for (int step = 1; step < steps; step++) {
            int v = leastOf(step);
            cut += cutChange(set, v);
            set ^= 1 << v;
            if (cut < k) {
                together &= has(set, node) ? set : ~set;
            }
        }
        return together;
    }

    /**
     * How many sets a walk over all cuts goes through, one node in or out at a step as for the densest.
     * A set and what is not in it are one cut, so the sets without the last node are enough.
     */
    private int cutSteps() {
        return nodes == 0 ? 0 : 1 << (nodes - 1);
    }

    /** How many more edges lead out of the set when v, in it or not, changes its side. */
    private int cutChange(int set, int v) {
        int inner = degreeWithin(set, v);
        int outer = Integer.bitCount(joins[v]) - inner;
        return has(set, v) ? inner - outer : outer - inner;
    }

    // ---- likeness, the rich

    public int likeness(int part) {
        if (!isPart(part)) {
            return OUTSIDE;
        }
        int edges = 0;
        int products = 0;
        int sums = 0;
        int squares = 0;
        for (int a = 0; a < nodes; a++) {
            for (int b = a + 1; b < nodes; b++) {
                if (has(joins[a], b)) {
                    int x = Integer.bitCount(joins[a]);
                    int y = Integer.bitCount(joins[b]);
                    edges++;
                    products += x * y;
                    sums += x + y;
                    squares += x * x + y * y;
                }
            }
        }
        return share(4 * edges * products - sums * sums, 2 * edges * squares - sums * sums, part);
    }

    public int rich(int k, int part) {
        if (!isPart(part) || k < 0) {
            return OUTSIDE;
        }
        int set = allNodes() & ~looseIn(allNodes(), k);
        return share(edgesWithin(set), pairsOf(Integer.bitCount(set)), part);
    }

    // ---- rows of degrees

    public int want(int degree) {
        if (degree < 0 || degree > GREATEST_NUMBER) {
            return OUTSIDE;
        }
        if (numbers >= MOST_NUMBERS) {
            return NO_ROOM;
        }
        row[numbers] = degree;
        numbers++;
        return numbers;
    }

    public int unwant() {
        int before = numbers;
        numbers = 0;
        return before;
    }

    public int graphic() {
        return tryMaking() ? 1 : 0;
    }

    public int make() {
        if (!tryMaking()) {
            return NONE;
        }
        nodes = numbers;
        System.arraycopy(madeJoins, 0, joins, 0, nodes);
        return edgesWithin(allNodes());
    }

    /**
     * Makes the row aside, so that a row that is not graphic leaves the graph as it is. By Havel and
     * Hakimi a row is graphic just if its making finds enough others each time.
     */
    private boolean tryMaking() {
        System.arraycopy(row, 0, wants, 0, numbers);
        for (int v = 0; v < numbers; v++) {
            madeJoins[v] = 0;
        }
        // A node that has been served wants none any more, so as many rounds as numbers do.
        for (int round = 0; round < numbers; round++) {
            int most = wantsMost(0);
            if (most >= 0 && !serve(most)) {
                return false;
            }
        }
        return true;
    }

    /** Joins a node with those that want most; whether there are as many as it wants. */
    private boolean serve(int node) {
        int passed = 1 << node;
        for (int left = wants[node]; left > 0; left--) {
            int other = wantsMost(passed);
            if (other < 0) {
                return false;
            }
            madeJoins[node] |= 1 << other;
            madeJoins[other] |= 1 << node;
            wants[other]--;
            passed |= 1 << other;
        }
        wants[node] = 0;
        return true;
    }

    /** The node, not one of those passed, that wants most, the least of several; -1: none wants any. */
    private int wantsMost(int passed) {
        int found = -1;
        int most = 0;
        for (int v = 0; v < numbers; v++) {
            if (!has(passed, v) && wants[v] > most) {
                found = v;
                most = wants[v];
            }
        }
        return found;
    }

    // ---- shares

    private static boolean isPart(int part) {
        return part == 0 || part == 1;
    }

    private static int pairsOf(int count) {
        return count * (count - 1) / 2;
    }

    /** A part of the share in lowest terms; there is none where nothing stands below. */
    private static int share(int above, int below, int part) {
        int divisor = greatestDivisor(Math.abs(above), below);
        if (below == 0 || divisor == 0) {
            return NONE;
        }
        return (part == 0 ? above : below) / divisor;
    }

    private static int greatestDivisor(int a, int b) {
        int greater = a;
        int less = b;
        for (int i = 0; i < MOST_DIVISIONS && less != 0; i++) {
            int rest = greater % less;
            greater = less;
            less = rest;
        }
        return greater;
    }
}
