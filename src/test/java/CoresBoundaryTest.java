import java.lang.reflect.InvocationTargetException;

/** The boundary cases of promises 6 to 10: degree, core, coreSet, peeled, layer. */
public final class CoresBoundaryTest {
    private static final Due due = new Due();

    private CoresBoundaryTest() {
    }

    public static void main(String[] args) throws IllegalAccessException, InvocationTargetException {
        Sentences.runAll(CoresBoundaryTest.class, due);
    }

    private interface OfNode {
        int on(DegreeCores x, int v);
    }

    /** The first below, the first above, far ones: -1 in each state, and nothing changes. */
    private static void refusesWhatIsNoNode(String call, OfNode asked) {
        for (State state : State.values()) {
            DegreeCores x = state.build();
            for (int bad : state.notNodes()) {
                due.is(call + "(" + bad + ") in " + state, asked.on(x, bad), -1);
            }
            for (int v = 0; v < state.nodes; v++) {
                due.isTrue(call + "(" + v + ") is no refusal in " + state, asked.on(x, v) >= 0);
            }
        }
    }

    private static void refusalChangesNothing(String call, OfNode asked) {
        for (State state : State.values()) {
            Watch.refused(due, state, call + "(n)", x -> asked.on(x, state.nodes), -1);
            Watch.refused(due, state, call + "(-1)", x -> asked.on(x, -1), -1);
            Watch.refused(due, state, call + "(MIN)", x -> asked.on(x, Integer.MIN_VALUE), -1);
        }
    }

    private static void each(String call, DegreeCores x, OfNode asked, int... want) {
        for (int v = 0; v < want.length; v++) {
            due.is(call + "(" + v + ")", asked.on(x, v), want[v]);
        }
    }

    private static void p06_aNodesDegree_oneNode() {
        due.is("degree(0)", Graphs.graph(1).degree(0), 0);
    }

    private static void p06_aNodesDegree_noEdgesAndAllEdges() {
        for (int nodes = 1; nodes <= 12; nodes++) {
            each("degree of " + nodes + " bare", Graphs.graph(nodes), DegreeCores::degree, Graphs.times(nodes, 0));
            each("degree of " + nodes + " joined", Graphs.complete(nodes), DegreeCores::degree,
                    Graphs.times(nodes, nodes - 1));
        }
    }

    private static void p06_aNodesDegree_aStarOfTwelve() {
        each("degree", Graphs.star(12), DegreeCores::degree, Graphs.then(11, 11, 1));
    }

    private static void p06_aNodesDegree_afterTheLastEdgeIsGone() {
        DegreeCores x = Graphs.graph(2, 0, 1);
        x.join(1, 0, false);
        each("degree", x, DegreeCores::degree, 0, 0);
    }

    private static void p06_minus1() {
        refusesWhatIsNoNode("degree", DegreeCores::degree);
    }

    private static void p06_minus1_changesNothing() {
        refusalChangesNothing("degree", DegreeCores::degree);
    }

    private static void p07_itsCoreNumber_oneNode() {
        due.is("core(0)", Graphs.graph(1).core(0), 0);
    }

    private static void p07_itsCoreNumber_noEdgesAndAllEdges() {
        for (int nodes = 1; nodes <= 12; nodes++) {
            each("core of " + nodes + " bare", Graphs.graph(nodes), DegreeCores::core, Graphs.times(nodes, 0));
            each("core of " + nodes + " joined", Graphs.complete(nodes), DegreeCores::core,
                    Graphs.times(nodes, nodes - 1));
        }
    }

    private static void p07_itsCoreNumber_oneEdgeLessThanAll() {
        DegreeCores x = Graphs.complete(12);
        x.join(0, 11, false);
        each("core", x, DegreeCores::core, Graphs.times(12, 10));
    }

    private static void p07_itsCoreNumber_aGreatDegreeAlone() {
        each("core of a star", Graphs.star(12), DegreeCores::core, Graphs.times(12, 1));
        each("core of a path", Graphs.path(12), DegreeCores::core, Graphs.times(12, 1));
        each("core of a ring", Graphs.ring(12), DegreeCores::core, Graphs.times(12, 2));
    }

    private static void p07_itsCoreNumber_elevenAndOneHanging() {
        DegreeCores x = Graphs.complete(11);
        x.node();
        x.join(11, 0, true);
        each("core", x, DegreeCores::core, 10, 10, 10, 10, 10, 10, 10, 10, 10, 10, 10, 1);
    }

    private static void p07_minus1() {
        refusesWhatIsNoNode("core", DegreeCores::core);
    }

    private static void p07_minus1_changesNothing() {
        refusalChangesNothing("core", DegreeCores::core);
    }

    private static void p08_core0_isAllNodes() {
        for (int nodes = 0; nodes <= 12; nodes++) {
            due.is("coreSet(0) of " + nodes + " bare", Graphs.graph(nodes).coreSet(0), (1 << nodes) - 1);
            due.is("coreSet(0) of " + nodes + " joined", Graphs.complete(nodes).coreSet(0), (1 << nodes) - 1);
        }
    }

    private static void p08_core1_isThoseWithAnEdge() {
        due.is("coreSet(1) without edges", Graphs.graph(12).coreSet(1), 0);
        due.is("coreSet(1) of the least and the greatest", Graphs.graph(12, 0, 11).coreSet(1), 1 | 1 << 11);
        due.is("coreSet(1) of six pairs", Graphs.sixPairs().coreSet(1), 4095);
    }

    private static void p08_theGreatestKThatIsReached() {
        for (int nodes = 2; nodes <= 12; nodes++) {
            DegreeCores x = Graphs.complete(nodes);
            due.is("coreSet(nodes - 1) of " + nodes, x.coreSet(nodes - 1), (1 << nodes) - 1);
            due.is("coreSet(nodes) of " + nodes, x.coreSet(nodes), 0);
        }
    }

    private static void p08_aKThatNothingReaches_isNoNode() {
        for (State state : State.values()) {
            DegreeCores x = state.build();
            due.is("coreSet(12) in " + state, x.coreSet(12), 0);
            due.is("coreSet(13) in " + state, x.coreSet(13), 0);
            for (int far : Graphs.FAR_ABOVE) {
                due.is("coreSet(" + far + ") in " + state, x.coreSet(far), 0);
            }
        }
    }

    private static void p08_eachOfItIsJoinedWithOthersOfIt_theLongestFallingApart() {
        // A path loses its ends only, turn by turn.
        due.is("coreSet(2) of a path of 12", Graphs.path(12).coreSet(2), 0);
        due.is("coreSet(1) of a path of 12", Graphs.path(12).coreSet(1), 4095);
        // A tail from 3 to 11 on a triangle falls away node by node, from the last.
        DegreeCores tail = Graphs.path(12);
        tail.join(0, 2, true);
        due.is("coreSet(2) of a triangle with a tail", tail.coreSet(2), 7);
        // And from the first.
        DegreeCores turned = Graphs.path(12);
        turned.join(9, 11, true);
        due.is("coreSet(2) of a tail with a triangle", turned.coreSet(2), 7 << 9);
    }

    private static void p08_minus2_kIsBelow0() {
        for (State state : State.values()) {
            DegreeCores x = state.build();
            due.is("coreSet(-1) in " + state, x.coreSet(-1), -2);
            for (int far : Graphs.FAR_BELOW) {
                due.is("coreSet(" + far + ") in " + state, x.coreSet(far), -2);
            }
            due.isTrue("coreSet(0) is no refusal in " + state, x.coreSet(0) >= 0);
        }
    }

    private static void p08_minus2_changesNothing() {
        for (State state : State.values()) {
            Watch.refused(due, state, "coreSet(-1)", x -> x.coreSet(-1), -2);
            Watch.refused(due, state, "coreSet(MIN)", x -> x.coreSet(Integer.MIN_VALUE), -2);
        }
    }

    private static void p09_takenAwayIth_from0ToTheLast() {
        each("peeled of one", Graphs.graph(1), DegreeCores::peeled, 0, -1);
        each("peeled of two", Graphs.graph(2, 0, 1), DegreeCores::peeled, 0, 1, -1);
        each("peeled of a star of 12", Graphs.star(12), DegreeCores::peeled, 1, 2, 3, 4, 5, 6, 7, 8, 9, 10, 0, 11, -1);
    }

    private static void p09_theLeastOfSeveral_noEdgesAndAllEdges() {
        int[] inOrder = {0, 1, 2, 3, 4, 5, 6, 7, 8, 9, 10, 11, -1};
        each("peeled of 12 bare", Graphs.graph(12), DegreeCores::peeled, inOrder);
        each("peeled of 12 joined", Graphs.complete(12), DegreeCores::peeled, inOrder);
        each("peeled of six pairs", Graphs.sixPairs(), DegreeCores::peeled, inOrder);
    }

    private static void p09_theFewestOfThoseLeft() {
        // From the tail's end to the triangle, though its nodes are less.
        DegreeCores tail = Graphs.path(12);
        tail.join(0, 2, true);
        each("peeled of a triangle with a tail", tail, DegreeCores::peeled, 11, 10, 9, 8, 7, 6, 5, 4, 3, 0, 1, 2, -1);
        each("peeled of a path", Graphs.path(12), DegreeCores::peeled, 0, 1, 2, 3, 4, 5, 6, 7, 8, 9, 10, 11, -1);
        // When 0 goes, 1 and 11 are alike: 1 is the less.
        each("peeled of a ring", Graphs.ring(12), DegreeCores::peeled, 0, 1, 2, 3, 4, 5, 6, 7, 8, 9, 10, 11, -1);
    }

    private static void p09_eachNodeOnce() {
        for (State state : State.values()) {
            DegreeCores x = state.build();
            int seen = 0;
            for (int i = 0; i < state.nodes; i++) {
                seen |= 1 << x.peeled(i);
            }
            due.is("all that are peeled in " + state, seen, (1 << state.nodes) - 1);
        }
    }

    private static void p09_minus1() {
        refusesWhatIsNoNode("peeled", DegreeCores::peeled);
    }

    private static void p09_minus1_changesNothing() {
        refusalChangesNothing("peeled", DegreeCores::peeled);
    }

    private static void p10_numberedFrom1On_oneNode() {
        due.is("layer(0)", Graphs.graph(1).layer(0), 1);
    }

    private static void p10_allAtOnce_noEdgesAndAllEdges() {
        for (int nodes = 1; nodes <= 12; nodes++) {
            each("layer of " + nodes + " bare", Graphs.graph(nodes), DegreeCores::layer, Graphs.times(nodes, 1));
            each("layer of " + nodes + " joined", Graphs.complete(nodes), DegreeCores::layer, Graphs.times(nodes, 1));
        }
        each("layer of a ring", Graphs.ring(12), DegreeCores::layer, Graphs.times(12, 1));
        each("layer of six pairs", Graphs.sixPairs(), DegreeCores::layer, Graphs.times(12, 1));
    }

    private static void p10_oneNodeALayer_manyLayers() {
        each("layer of a path", Graphs.path(12), DegreeCores::layer, 1, 2, 3, 4, 5, 6, 6, 5, 4, 3, 2, 1);
        // 11 is alone (k 0), then the tail from 10 to 3 (k 1), then the triangle (k 2).
        DegreeCores tail = Graphs.path(12);
        tail.join(0, 2, true);
        tail.join(10, 11, false);
        each("layer of one alone and a tail", tail, DegreeCores::layer, 10, 10, 10, 9, 8, 7, 6, 5, 4, 3, 2, 1);
    }

    private static void p10_theLeastNumberOfLeftOnes_oneNodeHasIt() {
        for (int alone : new int[] {0, 5, 11}) {
            DegreeCores x = Graphs.complete(12);
            for (int v = 0; v < 12; v++) {
                x.join(alone, v, false);
            }
            int[] want = Graphs.times(12, 2);
            want[alone] = 1;
            each("layer with " + alone + " alone", x, DegreeCores::layer, want);
            due.is("peeled(0) with " + alone + " alone", x.peeled(0), alone);
            x.join(alone, (alone + 1) % 12, true);
            each("layer with " + alone + " hanging", x, DegreeCores::layer, want);
            due.is("peeled(0) with " + alone + " hanging", x.peeled(0), alone);
        }
    }

    private static void p10_theMiddleOfAStarComesLast() {
        each("layer of a star of 12", Graphs.star(12), DegreeCores::layer, Graphs.then(2, 11, 1));
        each("layer of a star of 2", Graphs.star(2), DegreeCores::layer, 1, 1);
    }

    private static void p10_orTheKBefore_whatIsMore() {
        // 0 .. 4 all joined but 0 with 1 (k 3): 0 and 1 go; then 2, 3, 4 have 2 each, and k stays 3.
        DegreeCores x = Graphs.complete(5);
        x.join(0, 1, false);
        each("layer", x, DegreeCores::layer, 1, 1, 2, 2, 2);
        // 3 and 4 go first (k 2); 5 has 1 left then, 0 and 1 have 2: with k 2 kept they go at once.
        DegreeCores kept = Graphs.graph(6, 0, 1, 1, 2, 2, 0, 3, 5, 3, 0, 4, 5, 4, 1, 5, 2);
        each("layer with k kept", kept, DegreeCores::layer, 2, 2, 3, 1, 1, 2);
    }

    private static void p10_minus1() {
        refusesWhatIsNoNode("layer", DegreeCores::layer);
    }

    private static void p10_minus1_changesNothing() {
        refusalChangesNothing("layer", DegreeCores::layer);
    }
}
