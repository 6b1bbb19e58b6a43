import java.util.Arrays;

/** Objects for the tests: graphs told by their edges, rows told by their numbers. */
final class Graphs {
    /** The far ends of int, and the numbers at which shifts by an int begin anew. */
    static final int[] FAR_BELOW = {-2, -32, Integer.MIN_VALUE + 1, Integer.MIN_VALUE};
    static final int[] FAR_ABOVE = {31, 32, 33, 64, Integer.MAX_VALUE - 1, Integer.MAX_VALUE};

    private Graphs() {
    }

    /** A graph of so many nodes; edges are told as pairs: a, b, a, b, .. */
    static DegreeCores graph(int nodes, int... edges) {
        DegreeCores x = new DegreeCores();
        for (int i = 0; i < nodes; i++) {
            x.node();
        }
        for (int i = 0; i + 1 < edges.length; i += 2) {
            x.join(edges[i], edges[i + 1], true);
        }
        return x;
    }

    static DegreeCores complete(int nodes) {
        DegreeCores x = graph(nodes);
        joinAll(x, 0, nodes);
        return x;
    }

    static void joinAll(DegreeCores x, int from, int to) {
        for (int a = from; a < to; a++) {
            for (int b = a + 1; b < to; b++) {
                x.join(a, b, true);
            }
        }
    }

    /** Node 0 joined with all others. */
    static DegreeCores star(int nodes) {
        DegreeCores x = graph(nodes);
        for (int v = 1; v < nodes; v++) {
            x.join(0, v, true);
        }
        return x;
    }

    /** 0, 1, 2, .. each joined with the next. */
    static DegreeCores path(int nodes) {
        DegreeCores x = graph(nodes);
        for (int v = 1; v < nodes; v++) {
            x.join(v - 1, v, true);
        }
        return x;
    }

    static DegreeCores ring(int nodes) {
        DegreeCores x = path(nodes);
        x.join(nodes - 1, 0, true);
        return x;
    }

    /** Six edges of 12 nodes, no two with a node in common: 0 1, 2 3, .. */
    static DegreeCores sixPairs() {
        return graph(12, 0, 1, 2, 3, 4, 5, 6, 7, 8, 9, 10, 11);
    }

    /** Each of 0 .. 5 joined with each of 6 .. 11. */
    static DegreeCores twoSides() {
        DegreeCores x = graph(12);
        for (int a = 0; a < 6; a++) {
            for (int b = 6; b < 12; b++) {
                x.join(a, b, true);
            }
        }
        return x;
    }

    /** Nodes 0 to 3 each joined with each, 4 hanging on 3, 5 on 4, 6 alone. */
    static DegreeCores tailed() {
        return graph(7, 0, 1, 0, 2, 0, 3, 1, 2, 1, 3, 2, 3, 3, 4, 4, 5);
    }

    /** Two triangles 0 1 2 and 3 4 5 with the edge 2 3 between them. */
    static DegreeCores bridge() {
        return graph(6, 0, 1, 1, 2, 2, 0, 3, 4, 4, 5, 5, 3, 2, 3);
    }

    static DegreeCores row(int... degrees) {
        return withRow(new DegreeCores(), degrees);
    }

    static DegreeCores withRow(DegreeCores x, int... degrees) {
        for (int degree : degrees) {
            x.want(degree);
        }
        return x;
    }

    static int[] times(int count, int number) {
        int[] numbers = new int[count];
        Arrays.fill(numbers, number);
        return numbers;
    }

    /** A number, and then another so many times. */
    static int[] then(int first, int count, int number) {
        int[] numbers = times(count + 1, number);
        numbers[0] = first;
        return numbers;
    }
}
