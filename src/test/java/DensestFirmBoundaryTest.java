import java.lang.reflect.InvocationTargetException;

/** The boundary cases of promises 17 to 20: densest, density, firm, classOf. */
public final class DensestFirmBoundaryTest {
    private static final int FAR = Integer.MAX_VALUE;
    private static final int DEEP = Integer.MIN_VALUE;
    private static final int[] NOT_PARTS = {-1, 2, 3, 32, 33, -31, FAR, DEEP, DEEP + 1};
    private static final Due due = new Due();

    private DensestFirmBoundaryTest() {
    }

    public static void main(String[] args) throws IllegalAccessException, InvocationTargetException {
        Sentences.runAll(DensestFirmBoundaryTest.class, due);
    }

    private static void densityIs(String what, DegreeCores x, int above, int below) {
        due.is("density(0) of " + what, x.density(0), above);
        due.is("density(1) of " + what, x.density(1), below);
    }

    /** All of 0 .. 5, all of 6 .. 11, and so many edges between the two: 0 6, 1 7, .. */
    private static DegreeCores twoGroups(int between) {
        DegreeCores x = Graphs.graph(12);
        Graphs.joinAll(x, 0, 6);
        Graphs.joinAll(x, 6, 12);
        for (int v = 0; v < between; v++) {
            x.join(v, v + 6, true);
        }
        return x;
    }

    /** All joined but one node, which is joined with so many, the least first. */
    private static DegreeCores hangingBy(int weak, int edges) {
        DegreeCores x = Graphs.complete(12);
        int kept = 0;
        for (int v = 0; v < 12; v++) {
            if (v != weak && kept++ >= edges) {
                x.join(weak, v, false);
            }
        }
        return x;
    }

    private static void p17_notEmpty_oneNode() {
        due.is("densest()", Graphs.graph(1).densest(), 1);
    }

    private static void p17_allOthersInIt_noEdges() {
        for (int nodes = 1; nodes <= 12; nodes++) {
            due.is("densest() of " + nodes + " bare", Graphs.graph(nodes).densest(), (1 << nodes) - 1);
        }
        due.is("densest() after all are taken away", State.ALL_EDGES_TAKEN_AWAY.build().densest(), 4095);
    }

    private static void p17_asBits_allEdges() {
        for (int nodes = 1; nodes <= 12; nodes++) {
            due.is("densest() of all of " + nodes, Graphs.complete(nodes).densest(), (1 << nodes) - 1);
        }
    }

    private static void p17_asBits_theLeastAndTheGreatestNodes() {
        due.is("densest() with 0 1", Graphs.graph(12, 0, 1).densest(), 3);
        due.is("densest() with 10 11", Graphs.graph(12, 10, 11).densest(), 3 << 10);
        due.is("densest() with 0 11", Graphs.graph(12, 0, 11).densest(), 1 | 1 << 11);
    }

    private static void p17_ofSeveralThatWhichHasAllOthersInIt() {
        due.is("densest() of six pairs", Graphs.sixPairs().densest(), 4095);
        due.is("densest() of five pairs", Graphs.graph(12, 0, 1, 2, 3, 6, 7, 8, 9, 10, 11).densest(), 4095 - 48);
        due.is("densest() of two groups", twoGroups(0).densest(), 4095);
        // A ring is as dense as the triangle beside it.
        DegreeCores rings = Graphs.graph(12, 0, 1, 1, 2, 2, 0, 3, 4, 4, 5, 5, 6, 6, 7, 7, 3, 8, 9);
        due.is("densest() of two rings and a pair", rings.densest(), 255);
        // Each node of a tail on a ring brings one edge: as dense as the ring alone.
        DegreeCores tail = Graphs.path(12);
        tail.join(0, 2, true);
        due.is("densest() of a triangle with a tail", tail.densest(), 4095);
    }

    private static void p17_theGreatestQuotient_notTheMostEdges() {
        DegreeCores tree = Graphs.path(12);
        due.is("densest() of a path", tree.densest(), 4095);
        DegreeCores five = Graphs.path(12);
        Graphs.joinAll(five, 0, 5);
        due.is("densest() of five with a tail", five.densest(), 31);
    }

    private static void p17_minus3_thereAreNoNodes() {
        due.is("densest()", new DegreeCores().densest(), -3);
        due.is("densest() with a row", State.NO_NODES_FULL_ROW.build().densest(), -3);
        DegreeCores cleared = Graphs.complete(12);
        cleared.clear();
        due.is("densest() after clear", cleared.densest(), -3);
        DegreeCores made = Graphs.complete(12);
        made.make();
        due.is("densest() after making the empty row", made.densest(), -3);
    }

    private static void p17_minus3_changesNothing() {
        Watch.refused(due, State.NO_NODES_EMPTY_ROW, "densest()", DegreeCores::densest, -3);
        Watch.refused(due, State.NO_NODES_FULL_ROW, "densest()", DegreeCores::densest, -3);
    }

    private static void p18_share_0is0by1() {
        densityIs("one node", Graphs.graph(1), 0, 1);
        densityIs("12 bare", Graphs.graph(12), 0, 1);
        densityIs("12 with all edges taken away", State.ALL_EDGES_TAKEN_AWAY.build(), 0, 1);
    }

    private static void p18_share_ofOneEdge() {
        densityIs("two", Graphs.graph(2, 0, 1), 1, 2);
        densityIs("an edge of 12", Graphs.graph(12, 0, 11), 1, 2);
        densityIs("six pairs", Graphs.sixPairs(), 1, 2);
    }

    private static void p18_share_allEdges() {
        for (int nodes = 1; nodes <= 12; nodes++) {
            boolean odd = nodes % 2 == 1;
            densityIs("all of " + nodes, Graphs.complete(nodes), odd ? (nodes - 1) / 2 : nodes - 1, odd ? 1 : 2);
        }
    }

    private static void p18_share_inLowestTerms() {
        densityIs("a ring of 12", Graphs.ring(12), 1, 1);
        densityIs("a path of 12", Graphs.path(12), 11, 12);
        densityIs("two sides", Graphs.twoSides(), 3, 1);
        DegreeCores most = Graphs.complete(12);
        most.join(0, 11, false);
        densityIs("all but one edge", most, 65, 12);
    }

    private static void p18_minus2() {
        for (State state : State.values()) {
            DegreeCores x = state.build();
            for (int bad : NOT_PARTS) {
                due.is("density(" + bad + ") in " + state, x.density(bad), -2);
            }
        }
    }

    private static void p18_minus3() {
        for (int part = 0; part < 2; part++) {
            due.is("density(" + part + ")", new DegreeCores().density(part), -3);
            due.is("density(" + part + ") with a row", State.NO_NODES_FULL_ROW.build().density(part), -3);
        }
    }

    private static void p18_minus2AndMinus3_theFirstThatFits() {
        for (int bad : NOT_PARTS) {
            due.is("density(" + bad + ") of no nodes", new DegreeCores().density(bad), -2);
        }
    }

    private static void p18_refused_changesNothing() {
        for (State state : State.values()) {
            Watch.refused(due, state, "density(2)", x -> x.density(2), -2);
            Watch.refused(due, state, "density(-1)", x -> x.density(-1), -2);
        }
        Watch.refused(due, State.NO_NODES_EMPTY_ROW, "density(0)", x -> x.density(0), -3);
        Watch.refused(due, State.NO_NODES_FULL_ROW, "density(1)", x -> x.density(1), -3);
    }

    private static void p19_noWayLeads_0() {
        due.is("firm(0, 1) of two", Graphs.graph(2).firm(0, 1), 0);
        DegreeCores bare = Graphs.graph(12);
        due.is("firm(0, 11) without edges", bare.firm(0, 11), 0);
        due.is("firm(11, 0) without edges", bare.firm(11, 0), 0);
        due.is("firm(10, 11) without edges", bare.firm(10, 11), 0);
        DegreeCores apart = twoGroups(0);
        due.is("firm(0, 11) of two groups apart", apart.firm(0, 11), 0);
        due.is("firm(0, 5) of two groups apart", apart.firm(0, 5), 5);
        due.is("firm(11, 6) of two groups apart", apart.firm(11, 6), 5);
    }

    private static void p19_theLeastNumber_allEdges() {
        for (int nodes = 2; nodes <= 12; nodes++) {
            DegreeCores x = Graphs.complete(nodes);
            due.is("firm(0, 1) of all of " + nodes, x.firm(0, 1), nodes - 1);
            due.is("firm(last, 0) of all of " + nodes, x.firm(nodes - 1, 0), nodes - 1);
        }
    }

    private static void p19_theLeastNumber_theEndsOfAPath() {
        due.is("firm(0, 1) of two", Graphs.graph(2, 0, 1).firm(0, 1), 1);
        due.is("firm(0, 11) of a path", Graphs.path(12).firm(0, 11), 1);
        due.is("firm(0, 6) of a ring", Graphs.ring(12).firm(0, 6), 2);
        due.is("firm(11, 10) of a ring", Graphs.ring(12).firm(11, 10), 2);
    }

    private static void p19_theLeastNumber_betweenTheGroupsNotAtANode() {
        for (int between = 0; between <= 6; between++) {
            DegreeCores x = twoGroups(between);
            due.is("firm(0, 6) with " + between, x.firm(0, 6), between);
            due.is("firm(11, 5) with " + between, x.firm(11, 5), between);
        }
    }

    private static void p19_theLeastNumber_oneNodeHangsByFewerEdges() {
        for (int edges = 0; edges <= 11; edges++) {
            for (int[] pair : new int[][] {{0, 11}, {11, 0}, {6, 0}, {6, 11}, {0, 1}, {11, 10}}) {
                DegreeCores x = hangingBy(pair[0], edges);
                due.is("firm(weak, other) by " + edges, x.firm(pair[0], pair[1]), edges);
                due.is("firm(other, weak) by " + edges, x.firm(pair[1], pair[0]), edges);
            }
        }
    }

    private static void p19_minus1_alsoOfTheSame() {
        for (State state : State.values()) {
            DegreeCores x = state.build();
            for (int v = 0; v < state.nodes; v++) {
                due.is("firm(" + v + ", " + v + ") in " + state, x.firm(v, v), -1);
            }
        }
    }

    private static void p19_minus1() {
        for (State state : State.values()) {
            DegreeCores x = state.build();
            for (int bad : state.notNodes()) {
                due.is("firm(" + bad + ", 0) in " + state, x.firm(bad, 0), -1);
                due.is("firm(0, " + bad + ") in " + state, x.firm(0, bad), -1);
                due.is("firm(" + bad + ", " + bad + ") in " + state, x.firm(bad, bad), -1);
            }
        }
    }

    private static void p19_minus1_changesNothing() {
        for (State state : State.values()) {
            Watch.refused(due, state, "firm(0, n)", x -> x.firm(0, state.nodes), -1);
            Watch.refused(due, state, "firm(-1, 0)", x -> x.firm(-1, 0), -1);
            Watch.refused(due, state, "firm(0, 0)", x -> x.firm(0, 0), -1);
        }
    }

    private static void p20_k0_allNodesAreOneClass() {
        for (State state : State.values()) {
            DegreeCores x = state.build();
            for (int v = 0; v < state.nodes; v++) {
                due.is("classOf(" + v + ", 0) in " + state, x.classOf(v, 0), 0);
            }
        }
    }

    private static void p20_k1_thoseWithAWay() {
        DegreeCores bare = Graphs.graph(12);
        DegreeCores pairs = Graphs.sixPairs();
        for (int v = 0; v < 12; v++) {
            due.is("classOf(" + v + ", 1) without edges", bare.classOf(v, 1), v);
            due.is("classOf(" + v + ", 1) of pairs", pairs.classOf(v, 1), v - v % 2);
            due.is("classOf(" + v + ", 2) of pairs", pairs.classOf(v, 2), v);
            due.is("classOf(" + v + ", 1) of a path", Graphs.path(12).classOf(v, 1), 0);
        }
    }

    private static void p20_theGreatestKThatIsReached() {
        for (int nodes = 2; nodes <= 12; nodes++) {
            DegreeCores x = Graphs.complete(nodes);
            due.is("classOf(last, nodes - 1) of " + nodes, x.classOf(nodes - 1, nodes - 1), 0);
            due.is("classOf(last, nodes) of " + nodes, x.classOf(nodes - 1, nodes), nodes - 1);
        }
    }

    private static void p20_eachWithItself() {
        for (State state : State.values()) {
            DegreeCores x = state.build();
            for (int v = 0; v < state.nodes; v++) {
                due.is("classOf(" + v + ", 12) in " + state, x.classOf(v, 12), v);
                due.is("classOf(" + v + ", FAR) in " + state, x.classOf(v, FAR), v);
                due.is("classOf(" + v + ", 32) in " + state, x.classOf(v, 32), v);
            }
        }
        due.is("classOf(0, 0) of the only node", Graphs.graph(1).classOf(0, 0), 0);
        due.is("classOf(0, 1) of the only node", Graphs.graph(1).classOf(0, 1), 0);
    }

    private static void p20_theLeastNodeOfItsClass() {
        DegreeCores x = twoGroups(3);
        due.is("classOf(11, 3)", x.classOf(11, 3), 0);
        due.is("classOf(11, 4)", x.classOf(11, 4), 6);
        due.is("classOf(5, 5)", x.classOf(5, 5), 0);
        due.is("classOf(11, 5)", x.classOf(11, 5), 6);
        // 6, 7, 8 have degree 6, but the others of the group do not.
        due.is("classOf(8, 6)", x.classOf(8, 6), 6);
        due.is("classOf(11, 6)", x.classOf(11, 6), 11);
    }

    private static void p20_theLeastNodeOfItsClass_oneNodeHangsByFewerEdges() {
        for (int edges = 0; edges <= 9; edges++) {
            for (int weak : new int[] {0, 6, 11}) {
                DegreeCores x = hangingBy(weak, edges);
                due.is("classOf(weak, edges)", x.classOf(weak, edges), 0);
                due.is("classOf(weak, edges + 1)", x.classOf(weak, edges + 1), weak);
                due.is("classOf(10, edges)", x.classOf(10, edges), 0);
                due.is("classOf(10, edges + 1)", x.classOf(10, edges + 1), weak == 0 ? 1 : 0);
            }
        }
    }

    private static void p20_minus1() {
        for (State state : State.values()) {
            DegreeCores x = state.build();
            for (int bad : state.notNodes()) {
                due.is("classOf(" + bad + ", 0) in " + state, x.classOf(bad, 0), -1);
                due.is("classOf(" + bad + ", FAR) in " + state, x.classOf(bad, FAR), -1);
            }
        }
    }

    private static void p20_minus2_kIsBelow0() {
        DegreeCores all = Graphs.complete(12);
        DegreeCores one = Graphs.graph(1);
        for (int bad : new int[] {-1, -2, -32, DEEP + 1, DEEP}) {
            due.is("classOf(0, " + bad + ")", all.classOf(0, bad), -2);
            due.is("classOf(11, " + bad + ")", all.classOf(11, bad), -2);
            due.is("classOf(0, " + bad + ") of one", one.classOf(0, bad), -2);
        }
    }

    private static void p20_minus1AndMinus2_theFirstThatFits() {
        for (State state : State.values()) {
            DegreeCores x = state.build();
            for (int bad : state.notNodes()) {
                due.is("classOf(" + bad + ", -1) in " + state, x.classOf(bad, -1), -1);
                due.is("classOf(" + bad + ", DEEP) in " + state, x.classOf(bad, DEEP), -1);
            }
        }
    }

    private static void p20_refused_changesNothing() {
        for (State state : State.values()) {
            Watch.refused(due, state, "classOf(n, 0)", x -> x.classOf(state.nodes, 0), -1);
            Watch.refused(due, state, "classOf(-1, -1)", x -> x.classOf(-1, -1), -1);
            if (state.nodes > 0) {
                Watch.refused(due, state, "classOf(0, -1)", x -> x.classOf(0, -1), -2);
            }
        }
    }
}
