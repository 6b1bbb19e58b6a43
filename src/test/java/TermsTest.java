import java.lang.reflect.InvocationTargetException;
import java.util.ArrayList;
import java.util.Arrays;
import java.util.HashSet;
import java.util.List;
import java.util.Set;

/**
 * Terms of the document by its own words, on every graph of up to five nodes: where it says 'the least
 * number of edges without which', 'the greatest set of edges', 'some graph', all of them are tried.
 */
public final class TermsTest {
    private static final int MOST = 5;
    private static final Due due = new Due();

    private TermsTest() {
    }

    public static void main(String[] args) throws IllegalAccessException, InvocationTargetException {
        Sentences.runAll(TermsTest.class, due);
    }

    private interface EachGraph {
        void see(int nodes, List<int[]> edges);
    }

    private static void onEveryGraph(EachGraph each) {
        for (int nodes = 0; nodes <= MOST; nodes++) {
            List<int[]> pairs = new ArrayList<>();
            for (int a = 0; a < nodes; a++) {
                for (int b = a + 1; b < nodes; b++) {
                    pairs.add(new int[] {a, b});
                }
            }
            for (int choice = 0; choice < 1 << pairs.size(); choice++) {
                each.see(nodes, chosen(pairs, choice));
            }
        }
    }

    private static List<int[]> chosen(List<int[]> pairs, int choice) {
        List<int[]> some = new ArrayList<>();
        for (int i = 0; i < pairs.size(); i++) {
            if ((choice >> i & 1) == 1) {
                some.add(pairs.get(i));
            }
        }
        return some;
    }

    private static DegreeCores build(int nodes, List<int[]> edges) {
        return Graphs.graph(nodes, edges.stream().flatMapToInt(Arrays::stream).toArray());
    }

    private static String told(int nodes, List<int[]> edges) {
        StringBuilder text = new StringBuilder(nodes + " nodes");
        edges.forEach(e -> text.append(", ").append(e[0]).append(' ').append(e[1]));
        return text.toString();
    }

    private static boolean wayLeads(int nodes, List<int[]> edges, int from, int to) {
        int reached = 1 << from;
        for (int turn = 0; turn < nodes; turn++) {
            for (int[] e : edges) {
                if ((reached >> e[0] & 1) == 1 || (reached >> e[1] & 1) == 1) {
                    reached |= 1 << e[0] | 1 << e[1];
                }
            }
        }
        return (reached >> to & 1) == 1;
    }

    private static int firmness(int nodes, List<int[]> edges, int a, int b) {
        int all = (1 << edges.size()) - 1;
        int least = edges.size();
        for (int without = 0; without <= all; without++) {
            int count = Integer.bitCount(without);
            if (count < least && !wayLeads(nodes, chosen(edges, all & ~without), a, b)) {
                least = count;
            }
        }
        return least;
    }

    private static void terms_firmness_theLeastNumberOfEdgesWithoutWhichNoWayLeads() {
        onEveryGraph((nodes, edges) -> {
            DegreeCores x = build(nodes, edges);
            for (int a = 0; a < nodes; a++) {
                for (int b = a + 1; b < nodes; b++) {
                    int firmness = firmness(nodes, edges, a, b);
                    due.is("firm(" + a + ", " + b + ") of " + told(nodes, edges), x.firm(a, b), firmness);
                    due.is("firm(" + b + ", " + a + ") of " + told(nodes, edges), x.firm(b, a), firmness);
                }
            }
        });
    }

    /** What the object says of firmness is looked at above, so that classes may be told by it. */
    private static void terms_classK_thoseWhoseFirmnessIsKAtLeast() {
        onEveryGraph((nodes, edges) -> {
            DegreeCores x = build(nodes, edges);
            for (int k = 0; k <= MOST; k++) {
                for (int v = 0; v < nodes; v++) {
                    int least = 0;
                    while (least < v && x.firm(least, v) < k) {
                        least++;
                    }
                    due.is("classOf(" + v + ", " + k + ") of " + told(nodes, edges), x.classOf(v, k), least);
                }
            }
        });
    }

    private static boolean isIn(List<int[]> edges, int a, int b) {
        return edges.stream().anyMatch(e -> e[0] == Math.min(a, b) && e[1] == Math.max(a, b));
    }

    private static boolean eachLiesInTriangles(int nodes, List<int[]> some, int fewest) {
        for (int[] e : some) {
            int count = 0;
            for (int c = 0; c < nodes; c++) {
                count += isIn(some, e[0], c) && isIn(some, e[1], c) ? 1 : 0;
            }
            if (count < fewest) {
                return false;
            }
        }
        return true;
    }

    private static void terms_truss_theGreatestSetOfEdges() {
        onEveryGraph((nodes, edges) -> {
            int[] number = new int[edges.size()];
            for (int choice = 0; choice < 1 << edges.size(); choice++) {
                List<int[]> some = chosen(edges, choice);
                int k = 2;
                while (!some.isEmpty() && eachLiesInTriangles(nodes, some, k + 1 - 2)) {
                    k++;
                }
                for (int i = 0; i < number.length; i++) {
                    if ((choice >> i & 1) == 1) {
                        number[i] = Math.max(number[i], k);
                    }
                }
            }
            DegreeCores x = build(nodes, edges);
            for (int i = 0; i < number.length; i++) {
                int a = edges.get(i)[0];
                int b = edges.get(i)[1];
                due.is("truss(" + a + ", " + b + ") of " + told(nodes, edges), x.truss(a, b), number[i]);
            }
        });
    }

    private static void terms_graphic_someGraphWithSoManyNodesHasTheseDegrees() {
        Set<List<Integer>> rows = new HashSet<>();
        onEveryGraph((nodes, edges) -> {
            Integer[] degrees = new Integer[nodes];
            Arrays.fill(degrees, 0);
            edges.forEach(e -> {
                degrees[e[0]]++;
                degrees[e[1]]++;
            });
            rows.add(Arrays.asList(degrees));
        });
        for (int length = 0; length <= MOST; length++) {
            askRows(new ArrayList<>(), length, rows);
        }
    }

    private static void askRows(List<Integer> row, int length, Set<List<Integer>> graphic) {
        if (row.size() < length) {
            for (int degree = 0; degree <= MOST; degree++) {
                List<Integer> longer = new ArrayList<>(row);
                longer.add(degree);
                askRows(longer, length, graphic);
            }
            return;
        }
        DegreeCores x = Graphs.row(row.stream().mapToInt(Integer::intValue).toArray());
        boolean is = graphic.contains(row);
        due.is("graphic() of " + row, x.graphic(), is ? 1 : 0);
        int half = row.stream().mapToInt(Integer::intValue).sum() / 2;
        due.is("make() of " + row, x.make(), is ? half : -3);
        for (int v = 0; is && v < length; v++) {
            due.is("degree(" + v + ") of " + row, x.degree(v), row.get(v));
        }
    }
}
