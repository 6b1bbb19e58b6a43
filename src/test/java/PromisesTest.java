/** Promise by promise: ordinary inputs, the edges that the document names, wrong inputs. */
public final class PromisesTest {
    private static final int FAR = Integer.MAX_VALUE;
    private static final int DEEP = Integer.MIN_VALUE;
    private static final Due due = new Due();

    private PromisesTest() {
    }

    public static void main(String[] args) {
        newObject();
        node();
        join();
        joined();
        clear();
        degree();
        core();
        coreSet();
        peeled();
        layer();
        triangles();
        triangle();
        support();
        truss();
        cluster();
        closed();
        densest();
        density();
        firm();
        classOf();
        likeness();
        rich();
        want();
        unwant();
        graphic();
        make();
        refusalsChangeNothing();
        due.end();
    }

    private static void newObject() {
        due.topic("1 new object");
        due.is("clear()", new DegreeCores().clear(), 0);
        due.is("unwant()", new DegreeCores().unwant(), 0);
        due.is("coreSet(0)", new DegreeCores().coreSet(0), 0);
        due.is("graphic()", new DegreeCores().graphic(), 1);
        DegreeCores one = new DegreeCores();
        DegreeCores other = new DegreeCores();
        one.node();
        one.want(1);
        due.is("nodes of another object", other.clear(), 0);
        due.is("row of another object", other.unwant(), 0);
    }

    private static void node() {
        due.topic("2 node");
        DegreeCores x = new DegreeCores();
        for (int i = 0; i < 12; i++) {
            due.is("node()", x.node(), i);
        }
        due.is("node() 13th", x.node(), -4);
        due.is("node() 14th", x.node(), -4);
        due.is("degree(11)", x.degree(11), 0);
        due.is("degree(12)", x.degree(12), -1);
        due.is("clear()", x.clear(), 12);
        due.is("node() after clear", x.node(), 0);
    }

    private static void join() {
        due.topic("3 join");
        DegreeCores x = Graphs.graph(4);
        due.is("join(0, 1, false)", x.join(0, 1, false), 0);
        due.is("join(0, 1, true)", x.join(0, 1, true), 1);
        due.is("join(0, 1, true) again", x.join(0, 1, true), 0);
        due.is("join(1, 0, true)", x.join(1, 0, true), 0);
        due.is("joined(1, 0)", x.joined(1, 0), 1);
        due.is("join(3, 0, true)", x.join(3, 0, true), 1);
        due.is("join(1, 0, false)", x.join(1, 0, false), 1);
        due.is("joined(0, 1)", x.joined(0, 1), 0);
        due.is("joined(0, 3)", x.joined(0, 3), 1);
        due.is("join(1, 0, false) again", x.join(1, 0, false), 0);
        for (int bad : new int[] {-1, 4, 12, 32, FAR, DEEP}) {
            due.is("join(bad, 0, true)", x.join(bad, 0, true), -1);
            due.is("join(0, bad, true)", x.join(0, bad, true), -1);
            due.is("join(0, bad, false)", x.join(0, bad, false), -1);
            due.is("join(bad, bad, true)", x.join(bad, bad, true), -1);
        }
        due.is("join(2, 2, true)", x.join(2, 2, true), -1);
        due.is("join(2, 2, false)", x.join(2, 2, false), -1);
        due.is("degree(0)", x.degree(0), 1);
    }

    private static void joined() {
        due.topic("4 joined");
        DegreeCores x = Graphs.graph(12, 0, 11, 3, 4);
        due.is("joined(11, 0)", x.joined(11, 0), 1);
        due.is("joined(0, 11)", x.joined(0, 11), 1);
        due.is("joined(0, 3)", x.joined(0, 3), 0);
        due.is("joined(4, 3)", x.joined(4, 3), 1);
        due.is("joined(3, 3)", x.joined(3, 3), -1);
        for (int bad : new int[] {-1, 12, 32, FAR, DEEP}) {
            due.is("joined(bad, 0)", x.joined(bad, 0), -1);
            due.is("joined(0, bad)", x.joined(0, bad), -1);
        }
        due.is("joined of none", new DegreeCores().joined(0, 1), -1);
    }

    private static void clear() {
        due.topic("5 clear");
        DegreeCores x = Graphs.complete(5);
        x.want(1);
        due.is("clear()", x.clear(), 5);
        due.is("clear() again", x.clear(), 0);
        due.is("degree(0)", x.degree(0), -1);
        due.is("densest()", x.densest(), -3);
        for (int i = 0; i < 5; i++) {
            x.node();
        }
        due.is("joined(0, 1): no edge comes back", x.joined(0, 1), 0);
        due.is("degree(4)", x.degree(4), 0);
        due.is("unwant(): the row stays", x.unwant(), 1);
    }

    private static void degree() {
        due.topic("6 degree");
        DegreeCores x = Graphs.tailed();
        int[] want = {3, 3, 3, 4, 2, 1, 0};
        for (int v = 0; v < want.length; v++) {
            due.is("degree(" + v + ")", x.degree(v), want[v]);
        }
        due.is("degree(0) of 12", Graphs.complete(12).degree(0), 11);
        for (int bad : new int[] {-1, 7, 32, FAR, DEEP}) {
            due.is("degree(bad)", x.degree(bad), -1);
        }
    }

    private static void core() {
        due.topic("7 core");
        DegreeCores x = Graphs.tailed();
        int[] want = {3, 3, 3, 3, 1, 1, 0};
        for (int v = 0; v < want.length; v++) {
            due.is("core(" + v + ")", x.core(v), want[v]);
        }
        due.is("core(5) of 12", Graphs.complete(12).core(5), 11);
        due.is("core(2) of a bridge", Graphs.bridge().core(2), 2);
        due.is("core in a star's middle", Graphs.graph(4, 0, 1, 0, 2, 0, 3).core(0), 1);
        for (int bad : new int[] {-1, 7, 32, FAR, DEEP}) {
            due.is("core(bad)", x.core(bad), -1);
        }
    }

    private static void coreSet() {
        due.topic("8 coreSet");
        DegreeCores x = Graphs.tailed();
        int[] want = {127, 63, 15, 15, 0, 0};
        for (int k = 0; k < want.length; k++) {
            due.is("coreSet(" + k + ")", x.coreSet(k), want[k]);
        }
        due.is("coreSet(FAR)", x.coreSet(FAR), 0);
        due.is("coreSet(-1)", x.coreSet(-1), -2);
        due.is("coreSet(DEEP)", x.coreSet(DEEP), -2);
        due.is("coreSet(11) of 12", Graphs.complete(12).coreSet(11), 4095);
        due.is("coreSet(12) of 12", Graphs.complete(12).coreSet(12), 0);
        // A path peels from both ends, a round for each pair.
        due.is("coreSet(2) of a path", Graphs.graph(6, 0, 1, 1, 2, 2, 3, 3, 4, 4, 5).coreSet(2), 0);
    }

    private static void peeled() {
        due.topic("9 peeled");
        DegreeCores x = Graphs.tailed();
        int[] want = {6, 5, 4, 0, 1, 2, 3};
        for (int i = 0; i < want.length; i++) {
            due.is("peeled(" + i + ")", x.peeled(i), want[i]);
        }
        // 0 is joined with the most at first, and becomes the least of those alike later.
        DegreeCores star = Graphs.graph(4, 0, 1, 0, 2, 0, 3);
        int[] starWant = {1, 2, 0, 3};
        for (int i = 0; i < starWant.length; i++) {
            due.is("peeled(" + i + ") of a star", star.peeled(i), starWant[i]);
        }
        for (int bad : new int[] {-1, 7, 12, FAR, DEEP}) {
            due.is("peeled(bad)", x.peeled(bad), -1);
        }
        due.is("peeled(11) of 12", Graphs.complete(12).peeled(11), 11);
        due.is("peeled(12) of 12", Graphs.complete(12).peeled(12), -1);
    }

    private static void layer() {
        due.topic("10 layer");
        // 6 alone is layer 1 (k 0), 5 layer 2 and 4 layer 3 (k 1), the rest layer 4 (k 3).
        DegreeCores x = Graphs.tailed();
        int[] want = {4, 4, 4, 4, 3, 2, 1};
        for (int v = 0; v < want.length; v++) {
            due.is("layer(" + v + ")", x.layer(v), want[v]);
        }
        // 3 and 4 go first (k 2); then 5 is joined with one alone, but k stays 2: 0 and 1 go with it.
        DegreeCores high = Graphs.graph(6, 0, 1, 1, 2, 2, 0, 3, 5, 3, 0, 4, 5, 4, 1, 5, 2);
        due.is("layer(3) with k kept", high.layer(3), 1);
        due.is("layer(4) with k kept", high.layer(4), 1);
        due.is("layer(5) with k kept", high.layer(5), 2);
        due.is("layer(0) with k kept", high.layer(0), 2);
        due.is("layer(2) with k kept", high.layer(2), 3);
        due.is("layer(2) of a path of 5", Graphs.graph(5, 0, 1, 1, 2, 2, 3, 3, 4).layer(2), 3);
        due.is("layer(0) of 12", Graphs.complete(12).layer(0), 1);
        for (int bad : new int[] {-1, 7, 32, FAR, DEEP}) {
            due.is("layer(bad)", x.layer(bad), -1);
        }
    }

    private static void triangles() {
        due.topic("11 triangles");
        due.is("triangles() of none", new DegreeCores().triangles(), 0);
        due.is("triangles() of a tail", Graphs.tailed().triangles(), 4);
        due.is("triangles() of a bridge", Graphs.bridge().triangles(), 2);
        due.is("triangles() of 12", Graphs.complete(12).triangles(), 220);
        due.is("triangles() of a square", Graphs.graph(4, 0, 1, 1, 2, 2, 3, 3, 0).triangles(), 0);
    }

    private static void triangle() {
        due.topic("12 triangle");
        DegreeCores x = Graphs.graph(5, 3, 4, 4, 1, 1, 3, 0, 4, 0, 3, 0, 1, 2, 4, 2, 3);
        int[][] want = {{0, 1, 3}, {0, 1, 4}, {0, 3, 4}, {1, 3, 4}, {2, 3, 4}};
        due.is("triangles()", x.triangles(), want.length);
        for (int i = 0; i < want.length; i++) {
            for (int which = 0; which < 3; which++) {
                due.is("triangle(" + i + ", " + which + ")", x.triangle(i, which), want[i][which]);
            }
        }
        for (int bad : new int[] {-1, 3, FAR, DEEP}) {
            due.is("triangle(0, bad)", x.triangle(0, bad), -2);
        }
        for (int bad : new int[] {-1, 5, FAR, DEEP}) {
            due.is("triangle(bad, 0)", x.triangle(bad, 0), -1);
            due.is("triangle(bad, 3): the first that fits", x.triangle(bad, 3), -1);
        }
        DegreeCores all = Graphs.complete(12);
        due.is("triangle(219, 0)", all.triangle(219, 0), 9);
        due.is("triangle(219, 2)", all.triangle(219, 2), 11);
        due.is("triangle(220, 0)", all.triangle(220, 0), -1);
    }

    private static void support() {
        due.topic("13 support");
        DegreeCores x = Graphs.tailed();
        due.is("support(0, 1)", x.support(0, 1), 2);
        due.is("support(3, 0)", x.support(3, 0), 2);
        due.is("support(3, 4)", x.support(3, 4), 0);
        due.is("support(0, 4): not joined", x.support(0, 4), -1);
        due.is("support(2, 2)", x.support(2, 2), -1);
        for (int bad : new int[] {-1, 7, 32, FAR, DEEP}) {
            due.is("support(0, bad)", x.support(0, bad), -1);
            due.is("support(bad, 0)", x.support(bad, 0), -1);
        }
        due.is("support of 12", Graphs.complete(12).support(11, 0), 10);
    }

    private static void truss() {
        due.topic("14 truss");
        DegreeCores x = Graphs.tailed();
        due.is("truss(0, 1)", x.truss(0, 1), 4);
        due.is("truss(3, 2)", x.truss(3, 2), 4);
        due.is("truss(3, 4)", x.truss(3, 4), 2);
        due.is("truss(0, 4): not joined", x.truss(0, 4), -1);
        due.is("truss(1, 1)", x.truss(1, 1), -1);
        due.is("truss(0, 1) after others", x.truss(0, 1), 4);
        // The middle edge lies in two triangles, whose other edges lie in one each.
        due.is("truss of two triangles' edge", Graphs.graph(4, 0, 1, 0, 2, 1, 2, 0, 3, 1, 3).truss(0, 1), 3);
        due.is("truss of the only edge", Graphs.graph(2, 0, 1).truss(1, 0), 2);
        due.is("truss of 12", Graphs.complete(12).truss(10, 11), 12);
        for (int bad : new int[] {-1, 7, 32, FAR, DEEP}) {
            due.is("truss(0, bad)", x.truss(0, bad), -1);
            due.is("truss(bad, 0)", x.truss(bad, 0), -1);
        }
    }

    private static void share(String call, int above, int below, int wantAbove, int wantBelow) {
        due.is(call + " above", above, wantAbove);
        due.is(call + " below", below, wantBelow);
    }

    private static void cluster() {
        due.topic("15 cluster");
        DegreeCores x = Graphs.tailed();
        share("cluster(0)", x.cluster(0, 0), x.cluster(0, 1), 1, 1);
        share("cluster(3)", x.cluster(3, 0), x.cluster(3, 1), 1, 2);
        share("cluster(4)", x.cluster(4, 0), x.cluster(4, 1), 0, 1);
        due.is("cluster(5, 0): one alone", x.cluster(5, 0), -3);
        due.is("cluster(6, 1): none", x.cluster(6, 1), -3);
        for (int bad : new int[] {-1, 2, FAR, DEEP}) {
            due.is("cluster(0, bad)", x.cluster(0, bad), -2);
            due.is("cluster(6, bad): the first that fits", x.cluster(6, bad), -2);
            due.is("cluster(7, bad): the first that fits", x.cluster(7, bad), -1);
        }
        for (int bad : new int[] {-1, 7, 32, FAR, DEEP}) {
            due.is("cluster(bad, 0)", x.cluster(bad, 0), -1);
        }
    }

    private static void closed() {
        due.topic("16 closed");
        DegreeCores x = Graphs.tailed();
        // Paths: 3 + 3 + 3 + 6 + 1, three times four triangles.
        share("closed", x.closed(0), x.closed(1), 3, 4);
        DegreeCores path = Graphs.graph(3, 0, 1, 1, 2);
        share("closed of a path", path.closed(0), path.closed(1), 0, 1);
        DegreeCores all = Graphs.complete(12);
        share("closed of 12", all.closed(0), all.closed(1), 1, 1);
        DegreeCores apart = Graphs.graph(4, 0, 1, 2, 3);
        due.is("closed(0) of edges apart", apart.closed(0), -3);
        due.is("closed(1) of edges apart", apart.closed(1), -3);
        for (int bad : new int[] {-1, 2, FAR, DEEP}) {
            due.is("closed(bad)", x.closed(bad), -2);
            due.is("closed(bad) of edges apart: the first that fits", apart.closed(bad), -2);
            due.is("closed(bad) of none: the first that fits", new DegreeCores().closed(bad), -2);
        }
    }

    private static void densest() {
        due.topic("17 densest");
        due.is("densest() of none", new DegreeCores().densest(), -3);
        due.is("densest() without edges", Graphs.graph(5).densest(), 31);
        due.is("densest() of a tail", Graphs.tailed().densest(), 15);
        due.is("densest() of a bridge", Graphs.bridge().densest(), 63);
        due.is("densest() of a triangle, one alone", Graphs.graph(4, 1, 2, 2, 3, 3, 1).densest(), 14);
        due.is("densest() of two triangles apart, one alone",
                Graphs.graph(7, 0, 1, 1, 2, 2, 0, 4, 5, 5, 6, 6, 4).densest(), 1 + 2 + 4 + 16 + 32 + 64);
        due.is("densest() of 12", Graphs.complete(12).densest(), 4095);
        DegreeCores high = Graphs.graph(12);
        Graphs.joinAll(high, 7, 12);
        high.join(0, 11, true);
        due.is("densest() of the high ones", high.densest(), 4096 - 128);
    }

    private static void density() {
        due.topic("18 density");
        DegreeCores x = Graphs.tailed();
        share("density of a tail", x.density(0), x.density(1), 3, 2);
        DegreeCores between = Graphs.bridge();
        share("density of a bridge", between.density(0), between.density(1), 7, 6);
        DegreeCores bare = Graphs.graph(3);
        share("density without edges", bare.density(0), bare.density(1), 0, 1);
        DegreeCores all = Graphs.complete(12);
        share("density of 12", all.density(0), all.density(1), 11, 2);
        due.is("density(0) of none", new DegreeCores().density(0), -3);
        due.is("density(1) of none", new DegreeCores().density(1), -3);
        for (int bad : new int[] {-1, 2, FAR, DEEP}) {
            due.is("density(bad)", x.density(bad), -2);
            due.is("density(bad) of none: the first that fits", new DegreeCores().density(bad), -2);
        }
    }

    private static void firm() {
        due.topic("19 firm");
        DegreeCores x = Graphs.bridge();
        due.is("firm(0, 2)", x.firm(0, 2), 2);
        due.is("firm(2, 3)", x.firm(2, 3), 1);
        due.is("firm(5, 0)", x.firm(5, 0), 1);
        due.is("firm(0, 6) of a tail", Graphs.tailed().firm(0, 6), 0);
        due.is("firm(6, 0) of a tail", Graphs.tailed().firm(6, 0), 0);
        due.is("firm(0, 1) of a tail", Graphs.tailed().firm(0, 1), 3);
        due.is("firm(0, 11) of 12", Graphs.complete(12).firm(0, 11), 11);
        due.is("firm(0, 1) of two", Graphs.graph(2, 0, 1).firm(0, 1), 1);
        due.is("firm(0, 1) of two apart", Graphs.graph(2).firm(0, 1), 0);
        due.is("firm of those not joined", Graphs.graph(4, 0, 1, 1, 2, 2, 3, 3, 0).firm(0, 2), 2);
        // Two groups of four with two edges between: no single node's degree tells this.
        DegreeCores groups = Graphs.graph(8);
        Graphs.joinAll(groups, 0, 4);
        Graphs.joinAll(groups, 4, 8);
        groups.join(0, 4, true);
        groups.join(1, 5, true);
        due.is("firm(0, 4) of groups", groups.firm(0, 4), 2);
        due.is("firm(3, 7) of groups", groups.firm(3, 7), 2);
        due.is("firm(0, 1) of groups", groups.firm(0, 1), 4);
        due.is("firm(3, 3)", x.firm(3, 3), -1);
        for (int bad : new int[] {-1, 6, 32, FAR, DEEP}) {
            due.is("firm(0, bad)", x.firm(0, bad), -1);
            due.is("firm(bad, 0)", x.firm(bad, 0), -1);
            due.is("firm(bad, bad)", x.firm(bad, bad), -1);
        }
    }

    private static void classOf() {
        due.topic("20 classOf");
        DegreeCores x = Graphs.bridge();
        due.is("classOf(5, 0)", x.classOf(5, 0), 0);
        due.is("classOf(5, 1)", x.classOf(5, 1), 0);
        due.is("classOf(5, 2)", x.classOf(5, 2), 3);
        due.is("classOf(2, 2)", x.classOf(2, 2), 0);
        due.is("classOf(3, 3): each with itself", x.classOf(3, 3), 3);
        due.is("classOf(4, FAR)", x.classOf(4, FAR), 4);
        due.is("classOf(6, 0): alone", Graphs.tailed().classOf(6, 0), 0);
        due.is("classOf(6, 1): alone", Graphs.tailed().classOf(6, 1), 6);
        due.is("classOf(0, 1) of the only one", Graphs.graph(1).classOf(0, 1), 0);
        // 0 and 1 have four ways between them by way of nodes that are in no such class.
        DegreeCores ways = Graphs.graph(6, 1, 0, 1, 2, 2, 5, 1, 3, 3, 5, 1, 4, 4, 5, 0, 5);
        due.is("classOf(5, 4)", ways.classOf(5, 4), 1);
        due.is("classOf(0, 4)", ways.classOf(0, 4), 0);
        due.is("classOf(5, 5)", ways.classOf(5, 5), 5);
        for (int bad : new int[] {-1, 6, 32, FAR, DEEP}) {
            due.is("classOf(bad, 0)", x.classOf(bad, 0), -1);
            due.is("classOf(bad, -1): the first that fits", x.classOf(bad, -1), -1);
        }
        due.is("classOf(0, -1)", x.classOf(0, -1), -2);
        due.is("classOf(0, DEEP)", x.classOf(0, DEEP), -2);
    }

    private static void likeness() {
        due.topic("21 likeness");
        DegreeCores star = Graphs.graph(4, 0, 1, 0, 2, 0, 3);
        share("likeness of a star", star.likeness(0), star.likeness(1), -1, 1);
        DegreeCores path = Graphs.graph(4, 0, 1, 1, 2, 2, 3);
        share("likeness of a path", path.likeness(0), path.likeness(1), -1, 2);
        DegreeCores sorts = Graphs.graph(5, 0, 1, 1, 2, 2, 0, 3, 4);
        share("likeness of a triangle and an edge", sorts.likeness(0), sorts.likeness(1), 1, 1);
        // Degrees 3 1 1 1 and 2 2 2: m 6, p 21, s 24, q 54: (504 - 576) by (648 - 576).
        DegreeCores two = Graphs.graph(7, 0, 1, 0, 2, 0, 3, 4, 5, 5, 6, 6, 4);
        share("likeness of a star and a triangle", two.likeness(0), two.likeness(1), -1, 1);
        // Degrees 4 1 1 1 2 2 1: m 6, p 26, s 28, q 84: (624 - 784) by (1008 - 784).
        DegreeCores tree = Graphs.graph(7, 0, 1, 0, 2, 0, 3, 0, 4, 4, 5, 5, 6);
        share("likeness of a tree", tree.likeness(0), tree.likeness(1), -5, 7);
        due.is("likeness(0) of none", new DegreeCores().likeness(0), -3);
        due.is("likeness(1) without edges", Graphs.graph(3).likeness(1), -3);
        due.is("likeness(0) of 12", Graphs.complete(12).likeness(0), -3);
        for (int bad : new int[] {-1, 2, FAR, DEEP}) {
            due.is("likeness(bad)", path.likeness(bad), -2);
            due.is("likeness(bad) of none: the first that fits", new DegreeCores().likeness(bad), -2);
        }
    }

    private static void rich() {
        due.topic("22 rich");
        DegreeCores x = Graphs.tailed();
        share("rich(0)", x.rich(0, 0), x.rich(0, 1), 8, 15);
        share("rich(1)", x.rich(1, 0), x.rich(1, 1), 7, 10);
        share("rich(2)", x.rich(2, 0), x.rich(2, 1), 1, 1);
        due.is("rich(3, 0): one alone", x.rich(3, 0), -3);
        due.is("rich(4, 1): none", x.rich(4, 1), -3);
        due.is("rich(FAR, 0)", x.rich(FAR, 0), -3);
        DegreeCores stars = Graphs.graph(6, 0, 1, 0, 2, 3, 4, 3, 5);
        share("rich(1) of stars", stars.rich(1, 0), stars.rich(1, 1), 0, 1);
        due.is("rich(0, 0) of none", new DegreeCores().rich(0, 0), -3);
        due.is("rich(-1, 0)", x.rich(-1, 0), -2);
        due.is("rich(DEEP, 1)", x.rich(DEEP, 1), -2);
        for (int bad : new int[] {-1, 2, FAR, DEEP}) {
            due.is("rich(0, bad)", x.rich(0, bad), -2);
            due.is("rich(-1, bad)", x.rich(-1, bad), -2);
            due.is("rich(FAR, bad): the first that fits", x.rich(FAR, bad), -2);
        }
    }

    private static void want() {
        due.topic("23 want");
        DegreeCores x = new DegreeCores();
        due.is("want(-1)", x.want(-1), -2);
        due.is("want(21)", x.want(21), -2);
        due.is("want(FAR)", x.want(FAR), -2);
        due.is("want(DEEP)", x.want(DEEP), -2);
        due.is("want(0)", x.want(0), 1);
        due.is("want(20)", x.want(20), 2);
        for (int i = 3; i <= 12; i++) {
            due.is("want(1)", x.want(1), i);
        }
        due.is("want(1) 13th", x.want(1), -4);
        due.is("want(21) 13th: the first that fits", x.want(21), -2);
        due.is("want(-1) 13th: the first that fits", x.want(-1), -2);
        due.is("unwant()", x.unwant(), 12);
    }

    private static void unwant() {
        due.topic("24 unwant");
        DegreeCores x = Graphs.row(1, 2, 3);
        x.node();
        due.is("unwant()", x.unwant(), 3);
        due.is("unwant() again", x.unwant(), 0);
        due.is("graphic() of the empty row", x.graphic(), 1);
        due.is("want(0)", x.want(0), 1);
        due.is("clear(): the nodes stay", x.clear(), 1);
    }

    private static void graphic() {
        due.topic("25 graphic");
        due.is("graphic() of ", Graphs.row().graphic(), 1);
        due.is("graphic() of 0", Graphs.row(0).graphic(), 1);
        due.is("graphic() of 1", Graphs.row(1).graphic(), 0);
        due.is("graphic() of 20", Graphs.row(20).graphic(), 0);
        due.is("graphic() of 0 0 0", Graphs.row(0, 0, 0).graphic(), 1);
        due.is("graphic() of 2 2", Graphs.row(2, 2).graphic(), 0);
        due.is("graphic() of 1 2 1", Graphs.row(1, 2, 1).graphic(), 1);
        due.is("graphic() of 3 3 1 1", Graphs.row(3, 3, 1, 1).graphic(), 0);
        due.is("graphic() of 4 4 4 2 2 2", Graphs.row(4, 4, 4, 2, 2, 2).graphic(), 1);
        due.is("graphic() of 5 4 4 2 2 1", Graphs.row(5, 4, 4, 2, 2, 1).graphic(), 0);
        due.is("graphic() of 5 5 4 2 1 1", Graphs.row(5, 5, 4, 2, 1, 1).graphic(), 0);
        due.is("graphic() of 2 2 2 2 1: an odd sum", Graphs.row(2, 2, 2, 2, 1).graphic(), 0);
        int[] elevens = {11, 11, 11, 11, 11, 11, 11, 11, 11, 11, 11, 11};
        due.is("graphic() of twelve 11", Graphs.row(elevens).graphic(), 1);
        int[] twelves = {12, 12, 12, 12, 12, 12, 12, 12, 12, 12, 12, 12};
        due.is("graphic() of twelve 12", Graphs.row(twelves).graphic(), 0);
        DegreeCores x = Graphs.row(1, 1);
        Graphs.joinAll(x, x.node(), x.node() + 2);
        due.is("graphic() with a graph", x.graphic(), 1);
        due.is("clear(): the graph stays", x.clear(), 2);
        due.is("unwant(): the row stays", x.unwant(), 2);
    }

    private static void theseAreJoined(DegreeCores x, int... edges) {
        for (int i = 0; i + 1 < edges.length; i += 2) {
            due.is("joined(" + edges[i] + ", " + edges[i + 1] + ")", x.joined(edges[i], edges[i + 1]), 1);
        }
    }

    private static void make() {
        due.topic("26 make");
        DegreeCores x = Graphs.row(1, 2, 2, 3, 2);
        due.is("make()", x.make(), 5);
        // 3 takes 1, 2, 4 (want 2); now 0 1 2 4 want 1 each: 0 takes 1, then 2 takes 4.
        theseAreJoined(x, 3, 1, 3, 2, 3, 4, 0, 1, 2, 4);
        due.is("clear(): as many nodes as numbers", x.clear(), 5);
        due.is("unwant(): the row stays", x.unwant(), 5);

        // Of several that want alike the least comes first: those that are joined with it,
        DegreeCores others = Graphs.row(2, 1, 1, 1, 1);
        due.is("make() of 2 1 1 1 1", others.make(), 3);
        theseAreJoined(others, 0, 1, 0, 2, 3, 4);
        // and the one that they are joined with: 0 takes 1, 2, 3, then 1 takes 4, 2, then 3 takes 4.
        DegreeCores first = Graphs.row(3, 3, 2, 2, 2);
        due.is("make() of 3 3 2 2 2", first.make(), 6);
        theseAreJoined(first, 0, 1, 0, 2, 0, 3, 1, 4, 1, 2, 3, 4);
        // A making before leaves no edges behind.
        first.unwant();
        first.want(0);
        first.want(1);
        first.want(1);
        due.is("make() of 0 1 1", first.make(), 1);
        theseAreJoined(first, 1, 2);
        due.is("degree(0)", first.degree(0), 0);

        DegreeCores old = Graphs.complete(6);
        old.want(1);
        old.want(0);
        old.want(1);
        due.is("make() over a graph", old.make(), 1);
        due.is("joined(0, 2)", old.joined(0, 2), 1);
        due.is("joined(0, 1): old edges are gone", old.joined(0, 1), 0);
        due.is("degree(3): old nodes are gone", old.degree(3), -1);
        due.is("node()", old.node(), 3);
        due.is("degree(3) of a new one", old.degree(3), 0);
        due.is("make() again", old.make(), 1);
        due.is("clear()", old.clear(), 3);

        DegreeCores bad = Graphs.bridge();
        bad.want(3);
        due.is("make() of 3", bad.make(), -3);
        due.is("triangles(): the graph stays", bad.triangles(), 2);
        due.is("clear(): the nodes stay", bad.clear(), 6);
        due.is("unwant(): the row stays", bad.unwant(), 1);

        DegreeCores bare = Graphs.bridge();
        due.is("make() of the empty row", bare.make(), 0);
        due.is("clear(): no nodes", bare.clear(), 0);
        int[] elevens = {11, 11, 11, 11, 11, 11, 11, 11, 11, 11, 11, 11};
        due.is("make() of twelve 11", Graphs.row(elevens).make(), 66);
    }

    private static void refusalsChangeNothing() {
        due.topic("refusals");
        DegreeCores x = Graphs.bridge();
        x.want(1);
        x.node();
        x.join(0, 0, true);
        x.join(0, 9, true);
        x.join(6, 7, true);
        x.want(21);
        x.make();
        due.is("densest()", x.densest(), 63);
        due.is("degree(0)", x.degree(0), 2);
        due.is("degree(6)", x.degree(6), 0);
        due.is("clear()", x.clear(), 7);
        due.is("unwant()", x.unwant(), 1);
    }
}
