import java.lang.reflect.InvocationTargetException;

/** The boundary cases of promises 1 to 5: a new object, node, join, joined, clear. */
public final class GraphBoundaryTest {
    private static final Due due = new Due();

    private GraphBoundaryTest() {
    }

    public static void main(String[] args) throws IllegalAccessException, InvocationTargetException {
        Sentences.runAll(GraphBoundaryTest.class, due);
    }

    private static void p01_noNodes() {
        due.is("clear()", new DegreeCores().clear(), 0);
        due.is("node()", new DegreeCores().node(), 0);
        due.is("degree(0)", new DegreeCores().degree(0), -1);
        due.is("densest()", new DegreeCores().densest(), -3);
        due.is("coreSet(0)", new DegreeCores().coreSet(0), 0);
        due.is("triangles()", new DegreeCores().triangles(), 0);
    }

    private static void p01_noNodes_soEveryNodeAndEdgeIsRefused() {
        DegreeCores x = new DegreeCores();
        for (int v : new int[] {0, 1, 11, -1}) {
            due.is("degree(" + v + ")", x.degree(v), -1);
            due.is("core(" + v + ")", x.core(v), -1);
            due.is("peeled(" + v + ")", x.peeled(v), -1);
            due.is("layer(" + v + ")", x.layer(v), -1);
            due.is("triangle(" + v + ", 0)", x.triangle(v, 0), -1);
            due.is("cluster(" + v + ", 0)", x.cluster(v, 0), -1);
            due.is("classOf(" + v + ", 0)", x.classOf(v, 0), -1);
            due.is("join(" + v + ", 1 - " + v + ", true)", x.join(v, 1 - v, true), -1);
            due.is("joined(" + v + ", 1 - " + v + ")", x.joined(v, 1 - v), -1);
            due.is("support(" + v + ", 1 - " + v + ")", x.support(v, 1 - v), -1);
            due.is("truss(" + v + ", 1 - " + v + ")", x.truss(v, 1 - v), -1);
            due.is("firm(" + v + ", 1 - " + v + ")", x.firm(v, 1 - v), -1);
        }
    }

    private static void p01_noNodes_soEveryShareIsNone() {
        DegreeCores x = new DegreeCores();
        for (int part = 0; part < 2; part++) {
            due.is("closed(" + part + ")", x.closed(part), -3);
            due.is("density(" + part + ")", x.density(part), -3);
            due.is("likeness(" + part + ")", x.likeness(part), -3);
            due.is("rich(0, " + part + ")", x.rich(0, part), -3);
        }
    }

    private static void p01_anEmptyRow() {
        due.is("unwant()", new DegreeCores().unwant(), 0);
        due.is("want(0)", new DegreeCores().want(0), 1);
        due.is("graphic()", new DegreeCores().graphic(), 1);
        due.is("make()", new DegreeCores().make(), 0);
    }

    private static void p01_anotherObjectStaysAsItIs() {
        DegreeCores full = State.TWELVE_NODES_ALL_EDGES_BAD_ROW.build();
        DegreeCores fresh = new DegreeCores();
        due.is("clear() of a new one", fresh.clear(), 0);
        due.is("unwant() of a new one", fresh.unwant(), 0);
        fresh.node();
        fresh.node();
        fresh.want(0);
        due.is("joined(0, 1) of a new one", fresh.joined(0, 1), 0);
        due.is("graphic() of a new one", fresh.graphic(), 1);
        due.is("joined(0, 1) of the full one", full.joined(0, 1), 1);
        due.is("clear() of the full one", full.clear(), 12);
        due.is("unwant() of the full one", full.unwant(), 12);
    }

    private static void p02_itsNumber_theFirstIs0TheTwelfth11() {
        DegreeCores x = new DegreeCores();
        for (int number = 0; number < 12; number++) {
            due.is("node()", x.node(), number);
            due.is("degree(" + number + ") of the new one", x.degree(number), 0);
            due.is("degree(" + (number + 1) + ") of the next", x.degree(number + 1), -1);
        }
    }

    private static void p02_minus4_theThirteenth() {
        DegreeCores x = Graphs.graph(12);
        due.is("node()", x.node(), -4);
        due.is("node() again", x.node(), -4);
        due.is("degree(12)", x.degree(12), -1);
        due.is("clear()", x.clear(), 12);
    }

    private static void p02_minus4_changesNothing() {
        Watch.refused(due, State.TWELVE_NODES_NO_EDGES_FULL_ROW, "node()", DegreeCores::node, -4);
        Watch.refused(due, State.TWELVE_NODES_ALL_EDGES_BAD_ROW, "node()", DegreeCores::node, -4);
        Watch.refused(due, State.ALL_EDGES_TAKEN_AWAY, "node()", DegreeCores::node, -4);
    }

    private static void p02_roomAgainAfterClear() {
        DegreeCores x = Graphs.complete(12);
        x.node();
        x.clear();
        for (int number = 0; number < 12; number++) {
            due.is("node()", x.node(), number);
        }
        due.is("node() 13th", x.node(), -4);
    }

    private static void p02_minus4_afterMakingTwelve() {
        DegreeCores x = Graphs.row(Graphs.times(12, 11));
        x.make();
        due.is("node()", x.node(), -4);
        DegreeCores eleven = Graphs.row(Graphs.times(11, 0));
        eleven.make();
        due.is("node() behind 11", eleven.node(), 11);
        due.is("node() behind 12", eleven.node(), -4);
    }

    private static void p02_aNodeMoreIsJoinedWithNone() {
        DegreeCores x = Graphs.complete(12);
        x.clear();
        for (int v = 0; v < 12; v++) {
            x.node();
            due.is("degree(" + v + ") after all were joined", x.degree(v), 0);
        }
        DegreeCores made = Graphs.withRow(Graphs.complete(12), 0);
        made.make();
        for (int v = 1; v < 12; v++) {
            due.is("node() after making one", made.node(), v);
            due.is("degree(" + v + ") after making one", made.degree(v), 0);
        }
    }

    private static void p02_aNodeMoreLeavesTheOthersJoined() {
        DegreeCores x = Graphs.complete(11);
        due.is("node()", x.node(), 11);
        due.is("degree(0)", x.degree(0), 10);
        due.is("degree(11)", x.degree(11), 0);
        due.is("triangles()", x.triangles(), 165);
    }

    private static void p03_1_theLeastAndTheGreatestNodes() {
        DegreeCores x = Graphs.graph(12);
        due.is("join(0, 1, true)", x.join(0, 1, true), 1);
        due.is("join(11, 10, true)", x.join(11, 10, true), 1);
        due.is("join(0, 11, true)", x.join(0, 11, true), 1);
        due.is("joined(1, 0)", x.joined(1, 0), 1);
        due.is("joined(10, 11)", x.joined(10, 11), 1);
        due.is("joined(11, 0)", x.joined(11, 0), 1);
        due.is("degree(0)", x.degree(0), 2);
        due.is("degree(11)", x.degree(11), 2);
        due.is("degree(5)", x.degree(5), 0);
    }

    private static void p03_1_twoNodesAreTheFewest() {
        due.is("join(0, 1, true) of two", Graphs.graph(2).join(0, 1, true), 1);
        due.is("join(1, 0, true) of two", Graphs.graph(2).join(1, 0, true), 1);
        due.is("join(0, 1, true) of one", Graphs.graph(1).join(0, 1, true), -1);
        due.is("join(0, 1, true) of none", new DegreeCores().join(0, 1, true), -1);
    }

    private static void p03_0_theyWereSo_joined() {
        DegreeCores x = Graphs.complete(12);
        for (int v = 0; v < 11; v++) {
            due.is("join(v, 11, true)", x.join(v, 11, true), 0);
            due.is("join(11, v, true)", x.join(11, v, true), 0);
        }
        due.is("degree(11)", x.degree(11), 11);
    }

    private static void p03_0_theyWereSo_notJoined() {
        DegreeCores x = Graphs.graph(12);
        for (int v = 0; v < 11; v++) {
            due.is("join(v, 11, false)", x.join(v, 11, false), 0);
            due.is("join(11, v, false)", x.join(11, v, false), 0);
        }
        due.is("degree(11)", x.degree(11), 0);
    }

    private static void p03_allEdgesThereAndBack() {
        DegreeCores x = Graphs.graph(12);
        for (int a = 0; a < 12; a++) {
            for (int b = a + 1; b < 12; b++) {
                due.is("join(a, b, true)", x.join(a, b, true), 1);
            }
        }
        due.is("degree(0)", x.degree(0), 11);
        for (int a = 0; a < 12; a++) {
            for (int b = a + 1; b < 12; b++) {
                due.is("join(b, a, false)", x.join(b, a, false), 1);
            }
        }
        for (int v = 0; v < 12; v++) {
            due.is("degree(" + v + ")", x.degree(v), 0);
        }
    }

    private static void p03_minus1_noSuchNodes() {
        for (State state : State.values()) {
            DegreeCores x = state.build();
            for (int bad : state.notNodes()) {
                due.is("join(" + bad + ", 0, true) in " + state, x.join(bad, 0, true), -1);
                due.is("join(0, " + bad + ", true) in " + state, x.join(0, bad, true), -1);
                due.is("join(" + bad + ", 0, false) in " + state, x.join(bad, 0, false), -1);
                due.is("join(0, " + bad + ", false) in " + state, x.join(0, bad, false), -1);
                due.is("join(" + bad + ", -1, true) in " + state, x.join(bad, -1, true), -1);
            }
        }
    }

    private static void p03_minus1_bothAreTheSame() {
        for (State state : State.values()) {
            DegreeCores x = state.build();
            for (int v = 0; v < state.nodes; v++) {
                due.is("join(" + v + ", " + v + ", true) in " + state, x.join(v, v, true), -1);
                due.is("join(" + v + ", " + v + ", false) in " + state, x.join(v, v, false), -1);
            }
        }
    }

    private static void p03_minus1_bothAreTheSameAndNoNode() {
        for (State state : State.values()) {
            DegreeCores x = state.build();
            for (int bad : state.notNodes()) {
                due.is("join(" + bad + ", " + bad + ", true) in " + state, x.join(bad, bad, true), -1);
                due.is("join(" + bad + ", " + bad + ", false) in " + state, x.join(bad, bad, false), -1);
            }
        }
    }

    private static void p03_minus1_changesNothing() {
        for (State state : State.values()) {
            int last = state.nodes - 1;
            Watch.refused(due, state, "join(n, 0, true)", x -> x.join(state.nodes, 0, true), -1);
            Watch.refused(due, state, "join(0, n, true)", x -> x.join(0, state.nodes, true), -1);
            Watch.refused(due, state, "join(0, n, false)", x -> x.join(0, state.nodes, false), -1);
            Watch.refused(due, state, "join(-1, 0, true)", x -> x.join(-1, 0, true), -1);
            Watch.refused(due, state, "join(0, 32, true)", x -> x.join(0, 32, true), -1);
            Watch.refused(due, state, "join(0, 0, true)", x -> x.join(0, 0, true), -1);
            Watch.refused(due, state, "join(0, 0, false)", x -> x.join(0, 0, false), -1);
            Watch.refused(due, state, "join(last, last, true)", x -> x.join(last, last, true), -1);
        }
    }

    private static void p04_1or0_theLeastAndTheGreatestNodes() {
        DegreeCores bare = Graphs.graph(12);
        DegreeCores all = Graphs.complete(12);
        for (int[] pair : new int[][] {{0, 1}, {0, 11}, {10, 11}}) {
            due.is("joined without edges", bare.joined(pair[0], pair[1]), 0);
            due.is("joined without edges, turned", bare.joined(pair[1], pair[0]), 0);
            due.is("joined with all edges", all.joined(pair[0], pair[1]), 1);
            due.is("joined with all edges, turned", all.joined(pair[1], pair[0]), 1);
        }
    }

    private static void p04_1or0_oneEdgeOfAll() {
        DegreeCores x = Graphs.complete(12);
        x.join(0, 11, false);
        for (int a = 0; a < 12; a++) {
            for (int b = 0; b < 12; b++) {
                int want = a == b ? -1 : a + b == 11 && (a == 0 || b == 0) ? 0 : 1;
                due.is("joined(" + a + ", " + b + ")", x.joined(a, b), want);
            }
        }
    }

    private static void p04_minus1_noSuchNodes() {
        for (State state : State.values()) {
            DegreeCores x = state.build();
            for (int bad : state.notNodes()) {
                due.is("joined(" + bad + ", 0) in " + state, x.joined(bad, 0), -1);
                due.is("joined(0, " + bad + ") in " + state, x.joined(0, bad), -1);
                due.is("joined(" + bad + ", " + bad + ") in " + state, x.joined(bad, bad), -1);
            }
        }
    }

    private static void p04_minus1_bothAreTheSame() {
        for (State state : State.values()) {
            DegreeCores x = state.build();
            for (int v = 0; v < state.nodes; v++) {
                due.is("joined(" + v + ", " + v + ") in " + state, x.joined(v, v), -1);
            }
        }
    }

    private static void p04_minus1_changesNothing() {
        for (State state : State.values()) {
            Watch.refused(due, state, "joined(0, 0)", x -> x.joined(0, 0), -1);
            Watch.refused(due, state, "joined(0, n)", x -> x.joined(0, state.nodes), -1);
            Watch.refused(due, state, "joined(-1, 0)", x -> x.joined(-1, 0), -1);
        }
    }

    private static void p05_howManyThereWere() {
        for (State state : State.values()) {
            due.is("clear() in " + state, state.build().clear(), state.nodes);
        }
        for (int nodes = 0; nodes <= 12; nodes++) {
            due.is("clear() of " + nodes, Graphs.graph(nodes).clear(), nodes);
        }
    }

    private static void p05_noNodesAnyMore() {
        for (State state : State.values()) {
            DegreeCores x = state.build();
            x.clear();
            due.is("clear() again in " + state, x.clear(), 0);
            due.is("degree(0) in " + state, x.degree(0), -1);
            due.is("joined(0, 1) in " + state, x.joined(0, 1), -1);
            due.is("coreSet(0) in " + state, x.coreSet(0), 0);
            due.is("triangles() in " + state, x.triangles(), 0);
            due.is("closed(0) in " + state, x.closed(0), -3);
            due.is("densest() in " + state, x.densest(), -3);
            due.is("density(0) in " + state, x.density(0), -3);
            due.is("likeness(0) in " + state, x.likeness(0), -3);
            due.is("rich(0, 0) in " + state, x.rich(0, 0), -3);
            due.is("node() in " + state, x.node(), 0);
        }
    }

    private static void p05_noNodesAnyMore_theirEdgesDoNotComeBack() {
        DegreeCores x = Graphs.complete(12);
        x.clear();
        for (int v = 0; v < 12; v++) {
            x.node();
        }
        for (int a = 0; a < 12; a++) {
            for (int b = a + 1; b < 12; b++) {
                due.is("joined(a, b)", x.joined(a, b), 0);
            }
        }
        due.is("densest()", x.densest(), 4095);
        due.is("density(0)", x.density(0), 0);
    }

    private static void p05_theRowStays() {
        for (State state : State.values()) {
            DegreeCores x = state.build();
            int graphic = x.graphic();
            x.clear();
            due.is("graphic() in " + state, x.graphic(), graphic);
            due.is("unwant() in " + state, x.unwant(), state.numbers);
        }
    }
}
