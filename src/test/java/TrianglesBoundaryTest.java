import java.lang.reflect.InvocationTargetException;

/** The boundary cases of promises 11 to 16: triangles, triangle, support, truss, cluster, closed. */
public final class TrianglesBoundaryTest {
    private static final int FAR = Integer.MAX_VALUE;
    private static final int DEEP = Integer.MIN_VALUE;
    private static final int[] NOT_PARTS = {-1, 2, 3, 32, 33, -31, FAR, DEEP, DEEP + 1};
    private static final int[] NOT_CORNERS = {-1, 3, 4, 32, 34, FAR, DEEP};
    private static final Due due = new Due();

    private TrianglesBoundaryTest() {
    }

    public static void main(String[] args) throws IllegalAccessException, InvocationTargetException {
        Sentences.runAll(TrianglesBoundaryTest.class, due);
    }

    private interface OfPair {
        int on(DegreeCores x, int a, int b);
    }

    private static void share(String what, int above, int below, int wantAbove, int wantBelow) {
        due.is(what + " above", above, wantAbove);
        due.is(what + " below", below, wantBelow);
    }

    private static void closedIs(String what, DegreeCores x, int above, int below) {
        share("closed of " + what, x.closed(0), x.closed(1), above, below);
    }

    private static void clusterIs(String what, DegreeCores x, int v, int above, int below) {
        share("cluster(" + v + ") of " + what, x.cluster(v, 0), x.cluster(v, 1), above, below);
    }

    private static DegreeCores allButOneEdge() {
        DegreeCores x = Graphs.complete(12);
        x.join(0, 11, false);
        return x;
    }

    private static void p11_howMany_tooFewNodes() {
        for (int nodes = 0; nodes <= 2; nodes++) {
            due.is("triangles() of " + nodes, Graphs.complete(nodes).triangles(), 0);
        }
        due.is("triangles() of 3", Graphs.complete(3).triangles(), 1);
    }

    private static void p11_howMany_noEdgesAndAllEdges() {
        int[] want = {0, 0, 0, 1, 4, 10, 20, 35, 56, 84, 120, 165, 220};
        for (int nodes = 0; nodes <= 12; nodes++) {
            due.is("triangles() of " + nodes + " bare", Graphs.graph(nodes).triangles(), 0);
            due.is("triangles() of " + nodes + " joined", Graphs.complete(nodes).triangles(), want[nodes]);
        }
    }

    private static void p11_howMany_manyEdgesAndNone() {
        due.is("triangles() of two sides", Graphs.twoSides().triangles(), 0);
        due.is("triangles() of a star", Graphs.star(12).triangles(), 0);
        due.is("triangles() of a ring", Graphs.ring(12).triangles(), 0);
    }

    private static void p11_howMany_oneEdgeLessThanAll() {
        due.is("triangles()", allButOneEdge().triangles(), 210);
    }

    private static void p11_howMany_afterAnEdgeIsGone() {
        DegreeCores x = Graphs.complete(3);
        x.join(0, 2, false);
        due.is("triangles()", x.triangles(), 0);
        x.join(2, 0, true);
        due.is("triangles() with it again", x.triangles(), 1);
    }

    private static void p12_which_0TheLeast1And2() {
        DegreeCores x = Graphs.graph(12, 11, 0, 0, 5, 5, 11);
        due.is("triangle(0, 0)", x.triangle(0, 0), 0);
        due.is("triangle(0, 1)", x.triangle(0, 1), 5);
        due.is("triangle(0, 2)", x.triangle(0, 2), 11);
    }

    private static void p12_from0_theFirstAndTheLastOfAll() {
        DegreeCores x = Graphs.complete(12);
        int[][] want = {{0, 0, 1, 2}, {1, 0, 1, 3}, {9, 0, 1, 11}, {10, 0, 2, 3}, {54, 0, 10, 11}, {55, 1, 2, 3},
            {218, 8, 10, 11}, {219, 9, 10, 11}};
        for (int[] one : want) {
            for (int which = 0; which < 3; which++) {
                due.is("triangle(" + one[0] + ", " + which + ")", x.triangle(one[0], which), one[1 + which]);
            }
        }
    }

    private static void p12_listedByTheirLeastThenTheNextThenTheLast() {
        // In two objects, as one is used for 512 calls at most.
        for (int half = 0; half < 2; half++) {
            DegreeCores x = Graphs.complete(12);
            int before = -1;
            for (int i = half * 110; i < half * 110 + 110; i++) {
                int place = x.triangle(i, 0) * 144 + x.triangle(i, 1) * 12 + x.triangle(i, 2);
                due.isTrue("triangle " + i + " comes behind the one before", place > before);
                before = place;
            }
        }
    }

    private static void p12_minus1_noneSuch_behindTheLast() {
        for (int nodes = 0; nodes <= 12; nodes++) {
            DegreeCores x = Graphs.complete(nodes);
            int count = x.triangles();
            for (int which = 0; which < 3; which++) {
                due.is("triangle(count, " + which + ") of " + nodes, x.triangle(count, which), -1);
                due.is("triangle(-1, " + which + ") of " + nodes, x.triangle(-1, which), -1);
                due.is("triangle(FAR, " + which + ") of " + nodes, x.triangle(FAR, which), -1);
                due.is("triangle(DEEP, " + which + ") of " + nodes, x.triangle(DEEP, which), -1);
            }
        }
    }

    private static void p12_minus1_noneSuch_noTriangles() {
        due.is("triangle(0, 0) of two sides", Graphs.twoSides().triangle(0, 0), -1);
        due.is("triangle(0, 0) of 12 bare", Graphs.graph(12).triangle(0, 0), -1);
        due.is("triangle(0, 2) of one", Graphs.graph(1).triangle(0, 2), -1);
        due.is("triangle(0, 1) of none", new DegreeCores().triangle(0, 1), -1);
    }

    private static void p12_minus2_which() {
        DegreeCores x = Graphs.complete(12);
        for (int bad : NOT_CORNERS) {
            due.is("triangle(0, " + bad + ")", x.triangle(0, bad), -2);
            due.is("triangle(219, " + bad + ")", x.triangle(219, bad), -2);
        }
    }

    private static void p12_minus1AndMinus2_theFirstThatFits() {
        for (State state : State.values()) {
            DegreeCores x = state.build();
            int count = x.triangles();
            for (int bad : NOT_CORNERS) {
                due.is("triangle(count, " + bad + ") in " + state, x.triangle(count, bad), -1);
                due.is("triangle(-1, " + bad + ") in " + state, x.triangle(-1, bad), -1);
                due.is("triangle(FAR, " + bad + ") in " + state, x.triangle(FAR, bad), -1);
            }
        }
    }

    private static void p12_refused_changesNothing() {
        for (State state : State.values()) {
            Watch.refused(due, state, "triangle(220, 0)", x -> x.triangle(220, 0), -1);
            Watch.refused(due, state, "triangle(-1, 3)", x -> x.triangle(-1, 3), -1);
        }
        State all = State.TWELVE_NODES_ALL_EDGES_BAD_ROW;
        Watch.refused(due, all, "triangle(219, 3)", x -> x.triangle(219, 3), -2);
        Watch.refused(due, State.SEVEN_NODES_ROW_OF_THREE, "triangle(0, -1)", x -> x.triangle(0, -1), -2);
    }

    private static void p13_inHowMany_noneAndAll() {
        due.is("support of the only edge", Graphs.graph(2, 0, 1).support(0, 1), 0);
        for (int nodes = 2; nodes <= 12; nodes++) {
            DegreeCores x = Graphs.complete(nodes);
            due.is("support(0, 1) of " + nodes, x.support(0, 1), nodes - 2);
            due.is("support(last, 0) of " + nodes, x.support(nodes - 1, 0), nodes - 2);
        }
        due.is("support(0, 6) of two sides", Graphs.twoSides().support(0, 6), 0);
    }

    private static void p13_inHowMany_oneEdgeLessThanAll() {
        DegreeCores x = allButOneEdge();
        due.is("support(0, 1)", x.support(0, 1), 9);
        due.is("support(11, 1)", x.support(11, 1), 9);
        due.is("support(1, 2)", x.support(1, 2), 10);
        due.is("support(0, 11)", x.support(0, 11), -1);
    }

    private static void refusesWhatIsNoEdge(String call, OfPair asked) {
        for (State state : State.values()) {
            DegreeCores x = state.build();
            for (int bad : state.notNodes()) {
                due.is(call + "(0, " + bad + ") in " + state, asked.on(x, 0, bad), -1);
                due.is(call + "(" + bad + ", 0) in " + state, asked.on(x, bad, 0), -1);
                due.is(call + "(" + bad + ", " + bad + ") in " + state, asked.on(x, bad, bad), -1);
            }
            for (int v = 0; v < state.nodes; v++) {
                due.is(call + "(" + v + ", " + v + ") in " + state, asked.on(x, v, v), -1);
            }
        }
    }

    private static void refusesThoseNotJoined(String call, OfPair asked) {
        DegreeCores bare = Graphs.graph(12);
        DegreeCores taken = State.ALL_EDGES_TAKEN_AWAY.build();
        for (int a = 0; a < 12; a++) {
            for (int b = a + 1; b < 12; b++) {
                due.is(call + " without edges", asked.on(bare, a, b), -1);
                due.is(call + " after all are taken away", asked.on(taken, b, a), -1);
            }
        }
        due.is(call + "(0, 11) where that alone is missing", asked.on(allButOneEdge(), 0, 11), -1);
        due.is(call + "(11, 0) where that alone is missing", asked.on(allButOneEdge(), 11, 0), -1);
    }

    private static void refusedEdgeChangesNothing(String call, OfPair asked) {
        for (State state : State.values()) {
            Watch.refused(due, state, call + "(0, n)", x -> asked.on(x, 0, state.nodes), -1);
            Watch.refused(due, state, call + "(-1, 0)", x -> asked.on(x, -1, 0), -1);
            Watch.refused(due, state, call + "(0, 0)", x -> asked.on(x, 0, 0), -1);
        }
        Watch.refused(due, State.SEVEN_NODES_ROW_OF_THREE, call + "(0, 4)", x -> asked.on(x, 0, 4), -1);
    }

    private static void p13_minus1_theyAreNotJoined() {
        refusesThoseNotJoined("support", DegreeCores::support);
    }

    private static void p13_minus1_noSuchNodes() {
        refusesWhatIsNoEdge("support", DegreeCores::support);
    }

    private static void p13_minus1_changesNothing() {
        refusedEdgeChangesNothing("support", DegreeCores::support);
    }

    private static void p14_itsTrussNumber_2OrMore() {
        due.is("truss of the only edge", Graphs.graph(2, 0, 1).truss(0, 1), 2);
        due.is("truss(0, 11) of a star", Graphs.star(12).truss(0, 11), 2);
        due.is("truss(11, 0) of a ring", Graphs.ring(12).truss(11, 0), 2);
        due.is("truss(5, 6) of two sides", Graphs.twoSides().truss(5, 6), 2);
    }

    private static void p14_itsTrussNumber_allEdges() {
        for (int nodes = 2; nodes <= 12; nodes++) {
            DegreeCores x = Graphs.complete(nodes);
            due.is("truss(0, 1) of " + nodes, x.truss(0, 1), nodes);
            due.is("truss(last, 0) of " + nodes, x.truss(nodes - 1, 0), nodes);
        }
    }

    private static void p14_itsTrussNumber_oneEdgeLessThanAll() {
        DegreeCores x = allButOneEdge();
        due.is("truss(0, 1)", x.truss(0, 1), 11);
        due.is("truss(11, 10)", x.truss(11, 10), 11);
        due.is("truss(1, 2)", x.truss(1, 2), 11);
    }

    private static void p14_ofSuchEdges_aLongFallingApart() {
        // A strip of triangles v, v + 1, v + 2: for k 4 it falls away from both ends, bit by bit.
        DegreeCores strip = Graphs.path(12);
        for (int v = 0; v < 10; v++) {
            strip.join(v, v + 2, true);
        }
        due.is("support in the strip's middle", strip.support(5, 6), 2);
        due.is("truss in the strip's middle", strip.truss(5, 6), 3);
        due.is("truss at the strip's end", strip.truss(0, 1), 3);
    }

    /** All others in a ring, each of them joined with the middle. */
    private static DegreeCores wheel(int middle) {
        DegreeCores x = Graphs.graph(12);
        for (int v = 0; v < 12; v++) {
            int next = (v + 1) % 12 == middle ? (v + 2) % 12 : (v + 1) % 12;
            if (v != middle) {
                x.join(v, next, true);
                x.join(v, middle, true);
            }
        }
        return x;
    }

    private static void p14_ofSuchEdges_oneFallsOnlyAfterOthers() {
        // For k 4 the rim falls at first, as each of it lies in one triangle, and then the rays.
        for (int middle : new int[] {0, 5, 11}) {
            DegreeCores x = wheel(middle);
            for (int v = 0; v < 12; v++) {
                if (v != middle) {
                    due.is("support of a ray", x.support(v, middle), 2);
                    due.is("truss of a ray", x.truss(middle, v), 3);
                }
            }
        }
    }

    private static void p14_itsTrussNumber_beforeAndAfterOthers() {
        DegreeCores x = Graphs.tailed();
        due.is("truss(0, 1)", x.truss(0, 1), 4);
        due.is("truss(4, 5)", x.truss(4, 5), 2);
        due.is("truss(0, 1) again", x.truss(0, 1), 4);
        x.join(0, 1, false);
        due.is("truss(0, 2) with an edge less", x.truss(0, 2), 3);
        due.is("support(2, 3) with an edge less", x.support(2, 3), 2);
    }

    private static void p14_minus1_theyAreNotJoined() {
        refusesThoseNotJoined("truss", DegreeCores::truss);
    }

    private static void p14_minus1_noSuchNodes() {
        refusesWhatIsNoEdge("truss", DegreeCores::truss);
    }

    private static void p14_minus1_changesNothing() {
        refusedEdgeChangesNothing("truss", DegreeCores::truss);
    }

    private static void p15_share_0is0by1() {
        clusterIs("a path of 3", Graphs.path(3), 1, 0, 1);
        clusterIs("a star of 12", Graphs.star(12), 0, 0, 1);
        clusterIs("two sides", Graphs.twoSides(), 11, 0, 1);
    }

    private static void p15_share_allPairs() {
        for (int nodes = 3; nodes <= 12; nodes++) {
            clusterIs("all of " + nodes, Graphs.complete(nodes), 0, 1, 1);
            clusterIs("all of " + nodes, Graphs.complete(nodes), nodes - 1, 1, 1);
        }
    }

    private static void p15_share_oneOfThePairsAndAllButOne() {
        DegreeCores star = Graphs.star(12);
        star.join(10, 11, true);
        clusterIs("a star and an edge", star, 0, 1, 55);
        clusterIs("a star and an edge", star, 11, 1, 1);
        DegreeCores all = allButOneEdge();
        clusterIs("all but one edge", all, 5, 54, 55);
        clusterIs("all but one edge", all, 0, 1, 1);
    }

    private static void p15_share_inLowestTerms() {
        // Five triangles of 55 pairs.
        DegreeCores star = Graphs.star(12);
        for (int v = 1; v < 11; v += 2) {
            star.join(v, v + 1, true);
        }
        clusterIs("a star and five edges", star, 0, 1, 11);
    }

    private static void p15_minus1() {
        for (State state : State.values()) {
            DegreeCores x = state.build();
            for (int bad : state.notNodes()) {
                due.is("cluster(" + bad + ", 0) in " + state, x.cluster(bad, 0), -1);
                due.is("cluster(" + bad + ", 1) in " + state, x.cluster(bad, 1), -1);
            }
        }
    }

    private static void p15_minus2_anotherPart() {
        DegreeCores x = Graphs.complete(12);
        for (int bad : NOT_PARTS) {
            due.is("cluster(0, " + bad + ")", x.cluster(0, bad), -2);
            due.is("cluster(11, " + bad + ")", x.cluster(11, bad), -2);
        }
    }

    private static void p15_minus3_thereAreNoPairs() {
        for (int part = 0; part < 2; part++) {
            due.is("cluster of the only node", Graphs.graph(1).cluster(0, part), -3);
            due.is("cluster joined with none", Graphs.graph(12).cluster(11, part), -3);
            due.is("cluster joined with one", Graphs.graph(2, 0, 1).cluster(1, part), -3);
            due.is("cluster joined with a star's middle", Graphs.star(12).cluster(11, part), -3);
        }
    }

    private static void p15_minus1AndMinus2_theFirstThatFits() {
        for (State state : State.values()) {
            DegreeCores x = state.build();
            for (int bad : NOT_PARTS) {
                due.is("cluster(n, " + bad + ") in " + state, x.cluster(state.nodes, bad), -1);
                due.is("cluster(-1, " + bad + ") in " + state, x.cluster(-1, bad), -1);
                due.is("cluster(DEEP, " + bad + ") in " + state, x.cluster(DEEP, bad), -1);
            }
        }
    }

    private static void p15_minus2AndMinus3_theFirstThatFits() {
        for (int bad : NOT_PARTS) {
            due.is("cluster(0, " + bad + ") of one", Graphs.graph(1).cluster(0, bad), -2);
            due.is("cluster(11, " + bad + ") of 12 bare", Graphs.graph(12).cluster(11, bad), -2);
            due.is("cluster(1, " + bad + ") of two", Graphs.graph(2, 0, 1).cluster(1, bad), -2);
        }
    }

    private static void p15_refused_changesNothing() {
        for (State state : State.values()) {
            Watch.refused(due, state, "cluster(n, 0)", x -> x.cluster(state.nodes, 0), -1);
            Watch.refused(due, state, "cluster(-1, 2)", x -> x.cluster(-1, 2), -1);
            if (state.nodes > 0) {
                Watch.refused(due, state, "cluster(0, 2)", x -> x.cluster(0, 2), -2);
            }
        }
        Watch.refused(due, State.ONE_NODE_ROW_OF_ONE, "cluster(0, 0)", x -> x.cluster(0, 0), -3);
        Watch.refused(due, State.TWELVE_NODES_NO_EDGES_FULL_ROW, "cluster(11, 1)", x -> x.cluster(11, 1), -3);
        Watch.refused(due, State.SEVEN_NODES_ROW_OF_THREE, "cluster(5, 0)", x -> x.cluster(5, 0), -3);
    }

    private static void p16_share_0is0by1() {
        closedIs("the least path", Graphs.path(3), 0, 1);
        closedIs("a star of 12", Graphs.star(12), 0, 1);
        closedIs("two sides", Graphs.twoSides(), 0, 1);
    }

    private static void p16_share_allEdges() {
        for (int nodes = 3; nodes <= 12; nodes++) {
            closedIs("all of " + nodes, Graphs.complete(nodes), 1, 1);
        }
    }

    private static void p16_share_threeTimesTheTrianglesByThePaths() {
        // 3 * 210 by 10 * 55 + 2 * 45.
        closedIs("all but one edge", allButOneEdge(), 63, 64);
        // 3 * 1 by 55 + 2 * 1.
        DegreeCores star = Graphs.star(12);
        star.join(10, 11, true);
        closedIs("a star and an edge", star, 1, 19);
    }

    private static void p16_minus2() {
        for (State state : State.values()) {
            DegreeCores x = state.build();
            for (int bad : NOT_PARTS) {
                due.is("closed(" + bad + ") in " + state, x.closed(bad), -2);
            }
        }
    }

    private static void p16_minus3_thereAreNoPaths() {
        for (int part = 0; part < 2; part++) {
            due.is("closed of no nodes", new DegreeCores().closed(part), -3);
            due.is("closed of one node", Graphs.graph(1).closed(part), -3);
            due.is("closed of one edge", Graphs.graph(2, 0, 1).closed(part), -3);
            due.is("closed of 12 bare", Graphs.graph(12).closed(part), -3);
            due.is("closed of six pairs", Graphs.sixPairs().closed(part), -3);
        }
        DegreeCores six = Graphs.sixPairs();
        six.join(1, 2, true);
        closedIs("six pairs and an edge", six, 0, 1);
    }

    private static void p16_minus2AndMinus3_theFirstThatFits() {
        for (int bad : NOT_PARTS) {
            due.is("closed(" + bad + ") of no nodes", new DegreeCores().closed(bad), -2);
            due.is("closed(" + bad + ") of six pairs", Graphs.sixPairs().closed(bad), -2);
        }
    }

    private static void p16_refused_changesNothing() {
        for (State state : State.values()) {
            Watch.refused(due, state, "closed(2)", x -> x.closed(2), -2);
            Watch.refused(due, state, "closed(-1)", x -> x.closed(-1), -2);
        }
        Watch.refused(due, State.NO_NODES_FULL_ROW, "closed(0)", x -> x.closed(0), -3);
        Watch.refused(due, State.TWELVE_NODES_NO_EDGES_FULL_ROW, "closed(1)", x -> x.closed(1), -3);
    }
}
