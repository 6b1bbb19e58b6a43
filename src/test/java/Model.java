import java.math.BigInteger;
import java.util.ArrayList;
import java.util.Comparator;
import java.util.List;

/**
 * The document's words once more, in other ways than the class goes: by trying all sets where the
 * document says 'the greatest set', by flows for firmness, by Erdos and Gallai for rows. Slow, and
 * meant to be so plain that it can be read against the document.
 */
final class Model {
    private static final int MOST_TRIED = 8;
    private final boolean[][] joined = new boolean[12][12];
    private final List<Integer> row = new ArrayList<>();
    private int nodes = 0;

    int node() {
        if (nodes == 12) {
            return -4;
        }
        for (int v = 0; v < 12; v++) {
            joined[nodes][v] = false;
            joined[v][nodes] = false;
        }
        return nodes++;
    }

    int join(int a, int b, boolean is) {
        if (!two(a, b)) {
            return -1;
        }
        int changed = joined[a][b] == is ? 0 : 1;
        joined[a][b] = is;
        joined[b][a] = is;
        return changed;
    }

    int joined(int a, int b) {
        return two(a, b) ? bit(joined[a][b]) : -1;
    }

    int clear() {
        int before = nodes;
        nodes = 0;
        return before;
    }

    int degree(int v) {
        return is(v) ? inside(v, all()) : -1;
    }

    int core(int v) {
        if (!is(v)) {
            return -1;
        }
        int number = 0;
        for (int k = 0; k <= 12; k++) {
            if (in(coreSet(k), v)) {
                number = k;
            }
        }
        return number;
    }

    /** The union of all sets that fit is the greatest that fits. */
    int coreSet(int k) {
        if (k < 0) {
            return -2;
        }
        int union = 0;
        for (int set = 0; set <= all(); set++) {
            boolean fits = true;
            for (int v = 0; v < nodes && fits; v++) {
                fits = !in(set, v) || inside(v, set) >= k;
            }
            if (fits) {
                union |= set;
            }
        }
        return union;
    }

    int peeled(int i) {
        if (!is(i)) {
            return -1;
        }
        List<Integer> left = new ArrayList<>();
        for (int v = 0; v < nodes; v++) {
            left.add(v);
        }
        for (int turn = 0; ; turn++) {
            List<Integer> now = left;
            // min takes the first of several, and the list goes from the least up.
            Integer taken = left.stream().min(Comparator.comparingInt(v -> inside(v, bits(now)))).orElseThrow();
            if (turn == i) {
                return taken;
            }
            left.remove(taken);
        }
    }

    int layer(int node) {
        if (!is(node)) {
            return -1;
        }
        int left = all();
        int k = -1;
        for (int number = 1; ; number++) {
            int least = 99;
            for (int v = 0; v < nodes; v++) {
                if (in(left, v) && inside(v, left) < least) {
                    least = inside(v, left);
                }
            }
            if (least > k) {
                k = least;
            }
            int stay = 0;
            for (int v = 0; v < nodes; v++) {
                if (in(left, v) && inside(v, left) > k) {
                    stay |= 1 << v;
                }
            }
            if (!in(stay, node)) {
                return number;
            }
            left = stay;
        }
    }

    private List<int[]> triangleList() {
        List<int[]> list = new ArrayList<>();
        for (int set = 0; set <= all(); set++) {
            if (Integer.bitCount(set) == 3 && edgesIn(set) == 3) {
                int[] t = new int[3];
                int n = 0;
                for (int v = 0; v < nodes; v++) {
                    if (in(set, v)) {
                        t[n++] = v;
                    }
                }
                list.add(t);
            }
        }
        list.sort(Comparator.comparingInt((int[] t) -> t[0] * 10000 + t[1] * 100 + t[2]));
        return list;
    }

    int triangles() {
        return triangleList().size();
    }

    int triangle(int i, int which) {
        List<int[]> list = triangleList();
        if (i < 0 || i >= list.size()) {
            return -1;
        }
        return which < 0 || which > 2 ? -2 : list.get(i)[which];
    }

    int support(int a, int b) {
        if (!two(a, b) || !joined[a][b]) {
            return -1;
        }
        int count = 0;
        for (int c = 0; c < nodes; c++) {
            count += bit(joined[a][c] && joined[c][b]);
        }
        return count;
    }

    /** With few edges all sets of edges are tried, with more of them the weak ones are taken away. */
    int truss(int a, int b) {
        if (!two(a, b) || !joined[a][b]) {
            return -1;
        }
        int number = 2;
        for (int k = 3; k <= nodes + 1; k++) {
            boolean[][] truss = edgesIn(all()) <= MOST_TRIED ? trussByTrying(k) : trussByTaking(k);
            if (truss[a][b]) {
                number = k;
            }
        }
        return number;
    }

    private List<int[]> edgeList() {
        List<int[]> list = new ArrayList<>();
        for (int a = 0; a < nodes; a++) {
            for (int b = a + 1; b < nodes; b++) {
                if (joined[a][b]) {
                    list.add(new int[] {a, b});
                }
            }
        }
        return list;
    }

    private boolean[][] trussByTrying(int k) {
        List<int[]> edges = edgeList();
        boolean[][] union = new boolean[12][12];
        for (int choice = 0; choice < 1 << edges.size(); choice++) {
            boolean[][] some = new boolean[12][12];
            for (int e = 0; e < edges.size(); e++) {
                set(some, edges.get(e), in(choice, e));
            }
            boolean fits = true;
            for (int[] e : edges) {
                fits &= !some[e[0]][e[1]] || trianglesOn(some, e) >= k - 2;
            }
            for (int[] e : edges) {
                if (fits && some[e[0]][e[1]]) {
                    set(union, e, true);
                }
            }
        }
        return union;
    }

    private boolean[][] trussByTaking(int k) {
        boolean[][] left = new boolean[12][12];
        for (int[] e : edgeList()) {
            set(left, e, true);
        }
        boolean again = true;
        while (again) {
            again = false;
            List<int[]> weak = new ArrayList<>();
            for (int[] e : edgeList()) {
                if (left[e[0]][e[1]] && trianglesOn(left, e) < k - 2) {
                    weak.add(e);
                }
            }
            for (int[] e : weak) {
                set(left, e, false);
                again = true;
            }
        }
        return left;
    }

    private static void set(boolean[][] some, int[] e, boolean is) {
        some[e[0]][e[1]] = is;
        some[e[1]][e[0]] = is;
    }

    private int trianglesOn(boolean[][] some, int[] e) {
        int count = 0;
        for (int c = 0; c < nodes; c++) {
            count += bit(some[e[0]][c] && some[e[1]][c]);
        }
        return count;
    }

    int cluster(int node, int part) {
        if (!is(node)) {
            return -1;
        }
        int own = 0;
        for (int[] t : triangleList()) {
            own += bit(t[0] == node || t[1] == node || t[2] == node);
        }
        int pairs = 0;
        for (int a = 0; a < nodes; a++) {
            for (int b = a + 1; b < nodes; b++) {
                pairs += bit(joined[node][a] && joined[node][b]);
            }
        }
        return share(own, pairs, part);
    }

    int closed(int part) {
        List<int[]> edges = edgeList();
        int paths = 0;
        for (int i = 0; i < edges.size(); i++) {
            for (int j = i + 1; j < edges.size(); j++) {
                int[] e = edges.get(i);
                int[] f = edges.get(j);
                paths += bit(e[0] == f[0] || e[0] == f[1] || e[1] == f[0] || e[1] == f[1]);
            }
        }
        return share(3L * triangles(), paths, part);
    }

    /** The union of all sets with the greatest quotient; that it is one of them is looked at too. */
    int densest() {
        if (nodes == 0) {
            return -3;
        }
        int best = 1;
        for (int set = 1; set <= all(); set++) {
            if (quotientOrder(set, best) > 0) {
                best = set;
            }
        }
        int union = 0;
        for (int set = 1; set <= all(); set++) {
            if (quotientOrder(set, best) == 0) {
                union |= set;
            }
        }
        if (quotientOrder(union, best) != 0) {
            throw new IllegalStateException("no densest set has all others in it");
        }
        return union;
    }

    private int quotientOrder(int one, int other) {
        return Integer.compare(edgesIn(one) * Integer.bitCount(other), edgesIn(other) * Integer.bitCount(one));
    }

    int density(int part) {
        if (nodes == 0) {
            return part == 0 || part == 1 ? -3 : -2;
        }
        int set = densest();
        return share(edgesIn(set), Integer.bitCount(set), part);
    }

    /** By the most ways without a common edge (Menger): ways are sought along what is left open. */
    int firm(int a, int b) {
        if (!two(a, b)) {
            return -1;
        }
        int[][] open = new int[nodes][nodes];
        for (int[] e : edgeList()) {
            open[e[0]][e[1]] = 1;
            open[e[1]][e[0]] = 1;
        }
        int ways = 0;
        while (pushWay(open, a, b, new boolean[nodes])) {
            ways++;
        }
        return ways;
    }

    private static boolean pushWay(int[][] open, int at, int goal, boolean[] seen) {
        if (at == goal) {
            return true;
        }
        seen[at] = true;
        for (int next = 0; next < open.length; next++) {
            if (!seen[next] && open[at][next] > 0 && pushWay(open, next, goal, seen)) {
                open[at][next]--;
                open[next][at]++;
                return true;
            }
        }
        return false;
    }

    int classOf(int node, int k) {
        if (!is(node)) {
            return -1;
        }
        if (k < 0) {
            return -2;
        }
        for (int v = 0; v < node; v++) {
            if (firm(v, node) >= k) {
                return v;
            }
        }
        return node;
    }

    int likeness(int part) {
        long m = 0;
        long p = 0;
        long s = 0;
        long q = 0;
        for (int[] e : edgeList()) {
            long x = degree(e[0]);
            long y = degree(e[1]);
            m += 1;
            p += x * y;
            s += x + y;
            q += x * x + y * y;
        }
        return share(4 * m * p - s * s, 2 * m * q - s * s, part);
    }

    int rich(int k, int part) {
        if (k < 0) {
            return -2;
        }
        int pairs = 0;
        int edges = 0;
        for (int a = 0; a < nodes; a++) {
            for (int b = a + 1; b < nodes; b++) {
                boolean both = degree(a) > k && degree(b) > k;
                pairs += bit(both);
                edges += bit(both && joined[a][b]);
            }
        }
        return share(edges, pairs, part);
    }

    int want(int degree) {
        if (degree < 0 || degree > 20) {
            return -2;
        }
        if (row.size() == 12) {
            return -4;
        }
        row.add(degree);
        return row.size();
    }

    int unwant() {
        int before = row.size();
        row.clear();
        return before;
    }

    /** Erdos and Gallai: an even sum, and the k greatest want no more than there can be for them. */
    int graphic() {
        List<Integer> down = new ArrayList<>(row);
        down.sort(Comparator.reverseOrder());
        int sum = 0;
        for (int k = 1; k <= down.size(); k++) {
            sum += down.get(k - 1);
            int room = k * (k - 1);
            for (int i = k; i < down.size(); i++) {
                room += Math.min(down.get(i), k);
            }
            if (sum > room) {
                return 0;
            }
        }
        return sum % 2 == 0 ? 1 : 0;
    }

    int make() {
        if (graphic() == 0) {
            return -3;
        }
        clear();
        while (nodes < row.size()) {
            node();
        }
        int[] wants = row.stream().mapToInt(Integer::intValue).toArray();
        int edges = 0;
        while (true) {
            List<Integer> order = new ArrayList<>();
            for (int v = 0; v < nodes; v++) {
                order.add(v);
            }
            // The sort keeps those that want alike in their order, the least first.
            order.sort(Comparator.comparingInt(v -> -wants[v]));
            if (order.isEmpty() || wants[order.get(0)] == 0) {
                return edges;
            }
            int first = order.get(0);
            for (int other : order.subList(1, 1 + wants[first])) {
                if (join(first, other, true) != 1) {
                    throw new IllegalStateException("an edge is made twice");
                }
                wants[other]--;
                edges++;
            }
            wants[first] = 0;
        }
    }

    private boolean is(int v) {
        return 0 <= v && v < nodes;
    }

    private boolean two(int a, int b) {
        return is(a) && is(b) && a != b;
    }

    private int all() {
        return (1 << nodes) - 1;
    }

    private int inside(int v, int set) {
        int count = 0;
        for (int w = 0; w < nodes; w++) {
            count += bit(in(set, w) && joined[v][w]);
        }
        return count;
    }

    private int edgesIn(int set) {
        int count = 0;
        for (int a = 0; a < nodes; a++) {
            for (int b = a + 1; b < nodes; b++) {
                count += bit(in(set, a) && in(set, b) && joined[a][b]);
            }
        }
        return count;
    }

    private static int bits(List<Integer> list) {
        int set = 0;
        for (int v : list) {
            set |= 1 << v;
        }
        return set;
    }

    private static boolean in(int set, int v) {
        return (set & 1 << v) != 0;
    }

    private static int bit(boolean is) {
        return is ? 1 : 0;
    }

    private static int share(long above, long below, int part) {
        if (part != 0 && part != 1) {
            return -2;
        }
        if (below == 0) {
            return -3;
        }
        long common = BigInteger.valueOf(above).gcd(BigInteger.valueOf(below)).longValue();
        return (int) ((part == 0 ? above : below) / common);
    }
}
