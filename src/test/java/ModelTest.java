import java.util.Random;

/**
 * The class beside the model: every question on every graph of up to five nodes, then on many greater
 * ones; every small row; and long mixed runs with arguments near and far outside the bounds.
 */
public final class ModelTest {
    private static final Due due = new Due();
    private static final int[] ODD_NUMBERS = {
        -1, 12, 13, 20, 21, 31, 32, 33, 63, 64, -2, -32, 256, Integer.MAX_VALUE, Integer.MIN_VALUE, Integer.MIN_VALUE + 1
    };

    private static final int[] FAR_NUMBERS = {
        Integer.MIN_VALUE, Integer.MIN_VALUE + 1, -64, -33, -32, -31, -2, -1, 0, 1, 2, 3, 6, 7, 10, 11, 12, 13, 20, 21,
        31, 32, 33, 63, 64, 219, 220, Integer.MAX_VALUE - 1, Integer.MAX_VALUE
    };

    private ModelTest() {
    }

    public static void main(String[] args) {
        everySmallGraph();
        someGreaterGraphs();
        everyFarArgument();
        everySmallRow();
        someLongerRows();
        mixedRuns();
        due.end();
    }

    private static void everySmallGraph() {
        for (int nodes = 0; nodes <= 5; nodes++) {
            int pairs = nodes * (nodes - 1) / 2;
            for (int choice = 0; choice < 1 << pairs; choice++) {
                due.topic("graph " + choice + " of " + nodes + " nodes");
                Both both = new Both();
                both.nodes(nodes);
                int pair = 0;
                for (int a = 0; a < nodes; a++) {
                    for (int b = a + 1; b < nodes; b++) {
                        if ((choice >> pair++ & 1) == 1) {
                            both.join(a, b, true);
                        }
                    }
                }
                for (int kind = 0; kind < Both.KINDS; kind++) {
                    both.askAll(kind, nodes);
                }
            }
        }
    }

    private static void someGreaterGraphs() {
        Random random = new Random(7);
        for (int i = 0; i < 90; i++) {
            int nodes = 6 + i % 7;
            due.topic("greater graph " + i);
            boolean[][] edges = someEdges(random, nodes);
            // An object for each kind of call, as one is used for 512 calls at most.
            for (int kind = 0; kind < Both.KINDS; kind++) {
                Both both = new Both();
                both.build(edges);
                both.askAll(kind, nodes);
            }
        }
    }

    private static boolean[][] someEdges(Random random, int nodes) {
        boolean[][] edges = new boolean[nodes][nodes];
        int tenths = 1 + random.nextInt(9);
        for (int a = 0; a < nodes; a++) {
            for (int b = a + 1; b < nodes; b++) {
                edges[a][b] = random.nextInt(10) < tenths;
            }
        }
        return edges;
    }

    /** Every call with every two of the arguments at the bounds and far from them. */
    private static void everyFarArgument() {
        Random random = new Random(5);
        boolean[][][] graphs = {
            new boolean[0][0], new boolean[1][1], new boolean[2][2], new boolean[12][12], allEdges(2), allEdges(11),
            allEdges(12), someEdges(random, 7), someEdges(random, 12)
        };
        for (int i = 0; i < graphs.length; i++) {
            due.topic("far arguments on graph " + i);
            for (int kind = 0; kind < Both.KINDS; kind++) {
                for (int first : FAR_NUMBERS) {
                    Both both = new Both();
                    both.build(graphs[i]);
                    for (int second : Both.takesTwo(kind) ? FAR_NUMBERS : new int[] {0}) {
                        both.ask(kind, first, second);
                    }
                }
            }
            joinsAndWantsWithFarArguments(graphs[i]);
        }
    }

    private static void joinsAndWantsWithFarArguments(boolean[][] graph) {
        for (int first : FAR_NUMBERS) {
            Both both = new Both();
            both.build(graph);
            for (int second : FAR_NUMBERS) {
                both.join(first, second, false);
                both.join(first, second, true);
                both.want(second);
                both.graphic();
            }
            both.askEdges(graph.length);
            both.clear();
            both.unwant();
        }
    }

    private static boolean[][] allEdges(int nodes) {
        boolean[][] edges = new boolean[nodes][nodes];
        for (int a = 0; a < nodes; a++) {
            for (int b = a + 1; b < nodes; b++) {
                edges[a][b] = true;
            }
        }
        return edges;
    }

    private static void everySmallRow() {
        for (int length = 0; length <= 5; length++) {
            int[] row = new int[length];
            int rows = (int) Math.pow(length + 1, length);
            for (int choice = 0; choice < rows; choice++) {
                int rest = choice;
                for (int i = 0; i < length; i++) {
                    row[i] = rest % (length + 1);
                    rest /= length + 1;
                }
                askRow("row " + choice + " of " + length, row);
            }
        }
    }

    private static void someLongerRows() {
        Random random = new Random(11);
        for (int i = 0; i < 20000; i++) {
            int length = 6 + random.nextInt(7);
            int[] row = i % 2 == 0 ? degreesOfSomeGraph(random, length) : new int[length];
            for (int v = 0; v < length; v++) {
                if (i % 2 == 1) {
                    row[v] = random.nextInt(length);
                } else if (random.nextInt(12) == 0) {
                    row[v] = Math.max(0, row[v] + random.nextInt(3) - 1);
                }
            }
            askRow("longer row " + i, row);
        }
    }

    private static int[] degreesOfSomeGraph(Random random, int nodes) {
        int[] degrees = new int[nodes];
        int tenths = 1 + random.nextInt(9);
        for (int a = 0; a < nodes; a++) {
            for (int b = a + 1; b < nodes; b++) {
                if (random.nextInt(10) < tenths) {
                    degrees[a]++;
                    degrees[b]++;
                }
            }
        }
        return degrees;
    }

    private static void askRow(String topic, int[] row) {
        due.topic(topic);
        Both both = new Both();
        for (int degree : row) {
            both.want(degree);
        }
        both.graphic();
        both.make();
        both.askEdges(row.length);
        both.clear();
        both.unwant();
    }

    private static void mixedRuns() {
        Random random = new Random(3);
        for (int run = 0; run < 150; run++) {
            due.topic("mixed run " + run);
            Both both = new Both();
            for (int call = 0; call < 512; call++) {
                both.askSome(random);
            }
        }
    }

    private static int number(Random random) {
        return random.nextInt(12) == 0 ? ODD_NUMBERS[random.nextInt(ODD_NUMBERS.length)] : random.nextInt(12);
    }

    private static int part(Random random) {
        return random.nextInt(10) == 0 ? ODD_NUMBERS[random.nextInt(ODD_NUMBERS.length)] : random.nextInt(3);
    }

    /** An object of the class and one of the model; each call goes to both. */
    private static final class Both {
        private static final int KINDS = 19;
        private static final int MOST_CALLS = 512;

        private final DegreeCores x = new DegreeCores();
        private final Model m = new Model();
        private int calls = 0;

        /** Counts the call too: what an object answers behind its 512th is free, so none is asked then. */
        private void compare(String call, int got, int want) {
            calls++;
            if (calls > MOST_CALLS) {
                throw new IllegalStateException("an object is asked more than " + MOST_CALLS + " times");
            }
            due.is(call, got, want);
        }

        /** Nodes as many as rows, and the edges told above the middle, greater node first. */
        void build(boolean[][] edges) {
            nodes(edges.length);
            for (int a = 0; a < edges.length; a++) {
                for (int b = a + 1; b < edges.length; b++) {
                    if (edges[a][b]) {
                        join(b, a, true);
                    }
                }
            }
        }

        void nodes(int count) {
            for (int i = 0; i < count; i++) {
                compare("node()", x.node(), m.node());
            }
        }

        void join(int a, int b, boolean is) {
            compare("join(" + a + ", " + b + ", " + is + ")", x.join(a, b, is), m.join(a, b, is));
        }

        void clear() {
            compare("clear()", x.clear(), m.clear());
        }

        void want(int degree) {
            compare("want(" + degree + ")", x.want(degree), m.want(degree));
        }

        void unwant() {
            compare("unwant()", x.unwant(), m.unwant());
        }

        void graphic() {
            compare("graphic()", x.graphic(), m.graphic());
        }

        void make() {
            compare("make()", x.make(), m.make());
        }

        void askEdges(int nodes) {
            for (int a = 0; a < nodes; a++) {
                for (int b = 0; b <= nodes; b++) {
                    compare("joined(" + a + ", " + b + ")", x.joined(a, b), m.joined(a, b));
                }
            }
        }

        void askAll(int kind, int nodes) {
            for (int i = -1; i <= nodes; i++) {
                for (int j = -1; j <= (takesTwo(kind) ? nodes : -1); j++) {
                    ask(kind, i, j);
                }
            }
        }

        private static boolean takesTwo(int kind) {
            return kind == 0 || kind >= 7 && kind <= 10 || kind == 14 || kind == 15 || kind == 17;
        }

        void ask(int kind, int i, int j) {
            String at = "(" + i + ", " + j + ")";
            switch (kind) {
                case 0 -> compare("joined" + at, x.joined(i, j), m.joined(i, j));
                case 1 -> compare("degree" + at, x.degree(i), m.degree(i));
                case 2 -> compare("core" + at, x.core(i), m.core(i));
                case 3 -> compare("coreSet" + at, x.coreSet(i), m.coreSet(i));
                case 4 -> compare("peeled" + at, x.peeled(i), m.peeled(i));
                case 5 -> compare("layer" + at, x.layer(i), m.layer(i));
                case 6 -> compare("triangles()", x.triangles(), m.triangles());
                case 7 -> compare("triangle" + at, x.triangle(i, j), m.triangle(i, j));
                case 8 -> compare("support" + at, x.support(i, j), m.support(i, j));
                case 9 -> compare("truss" + at, x.truss(i, j), m.truss(i, j));
                case 10 -> compare("cluster" + at, x.cluster(i, j), m.cluster(i, j));
                case 11 -> compare("closed" + at, x.closed(i), m.closed(i));
                case 12 -> compare("densest()", x.densest(), m.densest());
                case 13 -> compare("density" + at, x.density(i), m.density(i));
                case 14 -> compare("firm" + at, x.firm(i, j), m.firm(i, j));
                case 15 -> compare("classOf" + at, x.classOf(i, j), m.classOf(i, j));
                case 16 -> compare("likeness" + at, x.likeness(i), m.likeness(i));
                case 17 -> compare("rich" + at, x.rich(i, j), m.rich(i, j));
                default -> graphic();
            }
        }

        /** One call of a mixed run: now and then one that begins anew, often one that builds. */
        void askSome(Random random) {
            int what = random.nextInt(200);
            if (what == 0) {
                clear();
            } else if (what == 1) {
                unwant();
            } else if (what == 2) {
                make();
            } else if (what < 25) {
                nodes(1);
            } else if (what < 90) {
                join(number(random), number(random), random.nextInt(4) != 0);
            } else if (what < 100) {
                want(random.nextInt(3) == 0 ? number(random) : random.nextInt(5));
            } else {
                askQuestion(random);
            }
        }

        private void askQuestion(Random random) {
            int kind = random.nextInt(KINDS);
            boolean partFirst = kind == 11 || kind == 13 || kind == 16;
            boolean partLast = kind == 7 || kind == 10 || kind == 17;
            int i = partFirst ? part(random) : number(random);
            int j = partLast ? part(random) : number(random);
            ask(kind, i, j);
        }
    }
}
