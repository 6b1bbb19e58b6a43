import java.lang.reflect.InvocationTargetException;

/** The boundary cases of promises 21 and 22: likeness, rich. */
public final class LikenessRichBoundaryTest {
    private static final int FAR = Integer.MAX_VALUE;
    private static final int DEEP = Integer.MIN_VALUE;
    private static final int[] NOT_PARTS = {-1, 2, 3, 32, 33, -31, FAR, DEEP, DEEP + 1};
    private static final Due due = new Due();

    private LikenessRichBoundaryTest() {
    }

    public static void main(String[] args) throws IllegalAccessException, InvocationTargetException {
        Sentences.runAll(LikenessRichBoundaryTest.class, due);
    }

    private static void likenessIs(String what, DegreeCores x, int above, int below) {
        due.is("likeness(0) of " + what, x.likeness(0), above);
        due.is("likeness(1) of " + what, x.likeness(1), below);
    }

    private static void likenessIsNone(String what, DegreeCores x) {
        likenessIs(what, x, -3, -3);
    }

    private static void richIs(String what, DegreeCores x, int k, int above, int below) {
        due.is("rich(" + k + ", 0) of " + what, x.rich(k, 0), above);
        due.is("rich(" + k + ", 1) of " + what, x.rich(k, 1), below);
    }

    private static void richIsNone(String what, DegreeCores x, int k) {
        richIs(what, x, k, -3, -3);
    }

    private static void p21_part0MayLookLikeARefusal_minus1() {
        // The least of all that have any: m 2, p 4, s 6, q 10: (32 - 36) by (40 - 36).
        likenessIs("a path of 3", Graphs.path(3), -1, 1);
        likenessIs("a star of 12", Graphs.star(12), -1, 1);
    }

    private static void p21_part0MayLookLikeARefusal_minus2() {
        // m 4, p 14, s 16, q 38: (224 - 256) by (304 - 256).
        likenessIs("a star with a longer ray", Graphs.graph(5, 0, 1, 0, 3, 0, 4, 1, 2), -2, 3);
    }

    private static void p21_part0MayLookLikeARefusal_minus3() {
        // m 4, p 10, s 14, q 32: (160 - 196) by (256 - 196).
        likenessIs("a star and a pair", Graphs.graph(6, 0, 3, 0, 4, 0, 5, 1, 2), -3, 5);
    }

    private static void p21_part0MayLookLikeARefusal_minus4() {
        // m 6, p 30, s 28, q 72: (720 - 784) by (864 - 784).
        likenessIs("a ring with two hanging", Graphs.graph(6, 0, 2, 0, 3, 0, 5, 1, 2, 1, 3, 1, 4), -4, 5);
    }

    private static void p21_0is0by1() {
        // m 4, p 9, s 12, q 20: (144 - 144) by (160 - 144).
        likenessIs("a path of 4 and a pair", Graphs.graph(6, 4, 1, 1, 0, 0, 5, 2, 3), 0, 1);
    }

    private static void p21_theGreatestIs1by1() {
        likenessIs("a triangle and a pair", Graphs.graph(5, 0, 4, 1, 2, 1, 3, 2, 3), 1, 1);
        DegreeCores parts = Graphs.graph(12);
        Graphs.joinAll(parts, 0, 10);
        parts.join(10, 11, true);
        likenessIs("all of ten and a pair", parts, 1, 1);
    }

    private static void p21_inLowestTerms_manyEdges() {
        // Two have degree 10, ten have 11: m 65, p 45 * 121 + 20 * 110, s 45 * 22 + 20 * 21,
        // q 45 * 242 + 20 * 221: (1987700 - 1988100) by (1990300 - 1988100).
        DegreeCores x = Graphs.complete(12);
        x.join(0, 11, false);
        likenessIs("all but one edge", x, -2, 11);
    }

    private static void p21_minus3_whereThatIs0_noEdges() {
        likenessIsNone("no nodes", new DegreeCores());
        likenessIsNone("no nodes with a row", State.NO_NODES_FULL_ROW.build());
        likenessIsNone("one node", Graphs.graph(1));
        likenessIsNone("12 bare", Graphs.graph(12));
        likenessIsNone("12 with all edges taken away", State.ALL_EDGES_TAKEN_AWAY.build());
    }

    private static void p21_minus3_whereThatIs0_allAlike() {
        likenessIsNone("one edge", Graphs.graph(2, 0, 1));
        likenessIsNone("one edge of 12", Graphs.graph(12, 0, 11));
        likenessIsNone("six pairs", Graphs.sixPairs());
        likenessIsNone("a ring", Graphs.ring(12));
        likenessIsNone("two sides", Graphs.twoSides());
        for (int nodes = 2; nodes <= 12; nodes++) {
            likenessIsNone("all of " + nodes, Graphs.complete(nodes));
        }
    }

    private static void p21_minus2() {
        for (State state : State.values()) {
            DegreeCores x = state.build();
            for (int bad : NOT_PARTS) {
                due.is("likeness(" + bad + ") in " + state, x.likeness(bad), -2);
            }
        }
    }

    private static void p21_minus2AndMinus3_theFirstThatFits() {
        for (int bad : NOT_PARTS) {
            due.is("likeness(" + bad + ") of no nodes", new DegreeCores().likeness(bad), -2);
            due.is("likeness(" + bad + ") of one edge", Graphs.graph(2, 0, 1).likeness(bad), -2);
            due.is("likeness(" + bad + ") of all of 12", Graphs.complete(12).likeness(bad), -2);
        }
    }

    private static void p21_refused_changesNothing() {
        for (State state : State.values()) {
            Watch.refused(due, state, "likeness(2)", x -> x.likeness(2), -2);
            Watch.refused(due, state, "likeness(-1)", x -> x.likeness(-1), -2);
            if (state != State.SEVEN_NODES_ROW_OF_THREE) {
                Watch.refused(due, state, "likeness(0)", x -> x.likeness(0), -3);
                Watch.refused(due, state, "likeness(1)", x -> x.likeness(1), -3);
            }
        }
    }

    private static void p22_degreeAboveK_theLeastK() {
        richIs("one edge", Graphs.graph(2, 0, 1), 0, 1, 1);
        richIs("one edge of 12", Graphs.graph(12, 0, 11), 0, 1, 1);
        richIs("six pairs", Graphs.sixPairs(), 0, 1, 11);
        richIs("all of 12", Graphs.complete(12), 0, 1, 1);
    }

    private static void p22_degreeAboveK_theGreatestKThatIsReached() {
        for (int nodes = 2; nodes <= 12; nodes++) {
            DegreeCores x = Graphs.complete(nodes);
            richIs("all of " + nodes, x, nodes - 2, 1, 1);
            richIsNone("all of " + nodes, x, nodes - 1);
        }
        DegreeCores most = Graphs.complete(12);
        most.join(0, 11, false);
        richIs("all but one edge", most, 9, 65, 66);
        richIs("all but one edge", most, 10, 1, 1);
        richIsNone("all but one edge", most, 11);
    }

    private static void p22_share_0is0by1() {
        richIs("two stars", Graphs.graph(6, 0, 1, 0, 2, 3, 4, 3, 5), 1, 0, 1);
        // 0 and 1 alone have a degree above 6: each of 2 .. 11 is joined with both.
        DegreeCores x = Graphs.graph(12);
        for (int v = 2; v < 12; v++) {
            x.join(0, v, true);
            x.join(1, v, true);
        }
        richIs("two middles", x, 9, 0, 1);
        richIs("two middles", x, 1, 10, 33);
    }

    private static void p22_minus3_thereAreNoPairs() {
        richIsNone("no nodes", new DegreeCores(), 0);
        richIsNone("one node", Graphs.graph(1), 0);
        richIsNone("12 bare", Graphs.graph(12), 0);
        richIsNone("12 with all edges taken away", State.ALL_EDGES_TAKEN_AWAY.build(), 0);
        richIsNone("a star: the middle alone", Graphs.star(12), 1);
        richIsNone("a star: the middle alone", Graphs.star(12), 10);
        richIsNone("a star: none", Graphs.star(12), 11);
    }

    private static void p22_minus3_aKThatNothingReaches() {
        for (State state : State.values()) {
            DegreeCores x = state.build();
            richIsNone(state.name(), x, 11);
            richIsNone(state.name(), x, 12);
            for (int far : Graphs.FAR_ABOVE) {
                richIsNone(state.name(), x, far);
            }
        }
    }

    private static void p22_minus2_anotherPart() {
        for (State state : State.values()) {
            DegreeCores x = state.build();
            for (int bad : NOT_PARTS) {
                due.is("rich(0, " + bad + ") in " + state, x.rich(0, bad), -2);
            }
        }
    }

    private static void p22_minus2_kBelow0() {
        for (State state : State.values()) {
            DegreeCores x = state.build();
            for (int part = 0; part < 2; part++) {
                due.is("rich(-1, " + part + ") in " + state, x.rich(-1, part), -2);
                for (int far : Graphs.FAR_BELOW) {
                    due.is("rich(" + far + ", " + part + ") in " + state, x.rich(far, part), -2);
                }
            }
        }
    }

    private static void p22_minus2_anotherPartAndKBelow0() {
        for (int bad : NOT_PARTS) {
            due.is("rich(-1, " + bad + ")", Graphs.complete(12).rich(-1, bad), -2);
            due.is("rich(DEEP, " + bad + ") of no nodes", new DegreeCores().rich(DEEP, bad), -2);
        }
    }

    private static void p22_minus2AndMinus3_theFirstThatFits() {
        for (int bad : NOT_PARTS) {
            due.is("rich(0, " + bad + ") of no nodes", new DegreeCores().rich(0, bad), -2);
            due.is("rich(FAR, " + bad + ") of all of 12", Graphs.complete(12).rich(FAR, bad), -2);
        }
        due.is("rich(-1, 0) of no nodes", new DegreeCores().rich(-1, 0), -2);
        due.is("rich(-1, 1) of one node", Graphs.graph(1).rich(-1, 1), -2);
    }

    private static void p22_refused_changesNothing() {
        for (State state : State.values()) {
            Watch.refused(due, state, "rich(0, 2)", x -> x.rich(0, 2), -2);
            Watch.refused(due, state, "rich(-1, 0)", x -> x.rich(-1, 0), -2);
            Watch.refused(due, state, "rich(11, 0)", x -> x.rich(11, 0), -3);
            Watch.refused(due, state, "rich(FAR, 1)", x -> x.rich(FAR, 1), -3);
        }
    }
}
