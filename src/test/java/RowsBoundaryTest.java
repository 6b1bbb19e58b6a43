import java.lang.reflect.InvocationTargetException;

/** The boundary cases of promises 23 to 26: want, unwant, graphic, make. */
public final class RowsBoundaryTest {
    private static final int[] NOT_NUMBERS = {
        -1, 21, 22, 32, -2, -32, Integer.MAX_VALUE, Integer.MIN_VALUE, Integer.MIN_VALUE + 20
    };
    private static final Due due = new Due();

    private RowsBoundaryTest() {
    }

    public static void main(String[] args) throws IllegalAccessException, InvocationTargetException {
        Sentences.runAll(RowsBoundaryTest.class, due);
    }

    private static void graphicIs(int want, int... row) {
        due.is("graphic() of " + java.util.Arrays.toString(row), Graphs.row(row).graphic(), want);
    }

    /** Just these edges, and no others among the nodes. */
    private static void edgesAre(DegreeCores x, int nodes, int... edges) {
        boolean[][] want = new boolean[nodes][nodes];
        for (int i = 0; i + 1 < edges.length; i += 2) {
            want[edges[i]][edges[i + 1]] = true;
            want[edges[i + 1]][edges[i]] = true;
        }
        for (int a = 0; a < nodes; a++) {
            for (int b = a + 1; b < nodes; b++) {
                due.is("joined(" + a + ", " + b + ")", x.joined(a, b), want[a][b] ? 1 : 0);
            }
        }
        due.is("degree behind the last", x.degree(nodes), -1);
    }

    private static void p23_howManyThereAre_theFirstIs1TheTwelfth12() {
        DegreeCores x = new DegreeCores();
        for (int count = 1; count <= 12; count++) {
            due.is("want(3)", x.want(3), count);
        }
    }

    private static void p23_0to20_theLeastAndTheGreatest() {
        due.is("want(0)", new DegreeCores().want(0), 1);
        due.is("want(20)", new DegreeCores().want(20), 1);
        DegreeCores x = new DegreeCores();
        for (int degree = 0; degree <= 20; degree++) {
            due.is("want(" + degree + ")", x.want(degree), 1);
            x.unwant();
        }
    }

    private static void p23_behindTheRow() {
        // The third is 2: node 2 is joined with both others.
        DegreeCores x = Graphs.row(1, 1, 2);
        x.make();
        edgesAre(x, 3, 2, 0, 2, 1);
    }

    private static void p23_minus2_itIsNot0to20() {
        for (State state : State.values()) {
            DegreeCores x = state.build();
            for (int bad : NOT_NUMBERS) {
                due.is("want(" + bad + ") in " + state, x.want(bad), -2);
            }
            due.is("unwant() in " + state, x.unwant(), state.numbers);
        }
    }

    private static void p23_minus4_theThirteenth() {
        for (int degree : new int[] {0, 1, 11, 20}) {
            DegreeCores x = Graphs.row(Graphs.times(12, 1));
            due.is("want(" + degree + ")", x.want(degree), -4);
            due.is("want(" + degree + ") again", x.want(degree), -4);
            due.is("graphic()", x.graphic(), 1);
            due.is("unwant()", x.unwant(), 12);
        }
    }

    private static void p23_minus2AndMinus4_theFirstThatFits() {
        DegreeCores x = Graphs.row(Graphs.times(12, 1));
        for (int bad : NOT_NUMBERS) {
            due.is("want(" + bad + ") 13th", x.want(bad), -2);
        }
    }

    private static void p23_roomAgainAfterUnwant() {
        DegreeCores x = Graphs.row(Graphs.times(12, 20));
        x.want(1);
        x.unwant();
        for (int count = 1; count <= 12; count++) {
            due.is("want(0)", x.want(0), count);
        }
        due.is("want(0) 13th", x.want(0), -4);
        due.is("graphic(): no old number is left", x.graphic(), 1);
    }

    private static void p23_refused_changesNothing() {
        for (State state : State.values()) {
            Watch.refused(due, state, "want(-1)", x -> x.want(-1), -2);
            Watch.refused(due, state, "want(21)", x -> x.want(21), -2);
            Watch.refused(due, state, "want(MIN)", x -> x.want(Integer.MIN_VALUE), -2);
            if (state.numbers == 12) {
                Watch.refused(due, state, "want(0)", x -> x.want(0), -4);
                Watch.refused(due, state, "want(20)", x -> x.want(20), -4);
            }
        }
    }

    private static void p23_theGraphStays() {
        DegreeCores x = Graphs.complete(12);
        x.want(3);
        due.is("triangles()", x.triangles(), 220);
        due.is("clear()", x.clear(), 12);
    }

    private static void p24_howManyThereWere() {
        for (State state : State.values()) {
            due.is("unwant() in " + state, state.build().unwant(), state.numbers);
        }
        for (int count = 0; count <= 12; count++) {
            due.is("unwant() of " + count, Graphs.row(Graphs.times(count, 5)).unwant(), count);
        }
    }

    private static void p24_theRowIsEmpty() {
        for (State state : State.values()) {
            DegreeCores x = state.build();
            x.unwant();
            due.is("unwant() again in " + state, x.unwant(), 0);
            due.is("graphic() in " + state, x.graphic(), 1);
            due.is("want(1) in " + state, x.want(1), 1);
            due.is("graphic() of 1 in " + state, x.graphic(), 0);
        }
    }

    private static void p24_theGraphStays() {
        for (State state : State.values()) {
            DegreeCores x = state.build();
            int densest = x.densest();
            int triangles = x.triangles();
            x.unwant();
            due.is("densest() in " + state, x.densest(), densest);
            due.is("triangles() in " + state, x.triangles(), triangles);
            due.is("clear() in " + state, x.clear(), state.nodes);
        }
    }

    private static void p25_theEmptyRowIs() {
        graphicIs(1);
        due.is("graphic() with nodes", Graphs.complete(12).graphic(), 1);
    }

    private static void p25_rowsOfOne() {
        graphicIs(1, 0);
        for (int degree = 1; degree <= 20; degree++) {
            graphicIs(0, degree);
        }
    }

    private static void p25_rowsOfTwo() {
        for (int a = 0; a <= 20; a++) {
            for (int b = 0; b <= 20; b++) {
                graphicIs(a == b && a <= 1 ? 1 : 0, a, b);
            }
        }
    }

    private static void p25_fullRows_allAlike() {
        for (int degree = 0; degree <= 20; degree++) {
            graphicIs(degree <= 11 ? 1 : 0, Graphs.times(12, degree));
        }
        // With eleven of them the sum is odd where the number is.
        for (int degree = 0; degree <= 20; degree++) {
            graphicIs(degree <= 10 && degree % 2 == 0 ? 1 : 0, Graphs.times(11, degree));
        }
    }

    private static void p25_soManyNodes_aNumberAsGreatAsTheOthersAllow() {
        graphicIs(1, Graphs.then(11, 11, 1));
        graphicIs(0, Graphs.then(12, 11, 1));
        graphicIs(0, Graphs.then(13, 11, 1));
        graphicIs(0, 11, 1, 1, 1, 1, 1, 1, 1, 1, 1, 1, 0);
        graphicIs(1, 10, 1, 1, 1, 1, 1, 1, 1, 1, 1, 1, 0);
        graphicIs(0, 10, 0, 0, 0, 0, 0, 0, 0, 0, 0, 0, 10);
        graphicIs(0, 20, 20, 20, 20, 20, 20, 20, 20, 20, 20, 20, 0);
    }

    private static void p25_theseDegrees_anEvenSumIsNotEnough() {
        graphicIs(0, 11, 11, 1, 1, 1, 1, 1, 1, 1, 1, 1, 1);
        graphicIs(1, 11, 11, 2, 2, 2, 2, 2, 2, 2, 2, 2, 2);
        graphicIs(0, 3, 3, 1, 1);
        graphicIs(0, 2, 2);
        graphicIs(0, 2, 0);
    }

    private static void p25_theseDegrees_anOddSumNever() {
        graphicIs(0, 1, 1, 1);
        graphicIs(0, 11, 11, 11, 11, 11, 11, 11, 11, 11, 11, 11, 10);
        graphicIs(1, 11, 11, 11, 11, 11, 11, 11, 11, 11, 11, 10, 10);
        graphicIs(0, 1, 0, 0, 0, 0, 0, 0, 0, 0, 0, 0, 0);
        graphicIs(1, 1, 0, 0, 0, 0, 0, 0, 0, 0, 0, 0, 1);
    }

    private static void p25_theOrderDoesNotMatter() {
        graphicIs(1, 1, 1, 1, 1, 1, 1, 1, 1, 1, 1, 1, 11);
        graphicIs(1, 0, 1, 2, 3, 3, 3);
        graphicIs(1, 3, 0, 3, 2, 1, 3);
        graphicIs(0, 1, 1, 3, 3);
    }

    private static void p25_asking_changesNothing() {
        for (State state : State.values()) {
            Watch.changesNothing(due, state, "graphic()", DegreeCores::graphic);
        }
    }

    private static void p26_howManyEdges_theEmptyRow() {
        for (State state : State.values()) {
            DegreeCores x = state.build();
            x.unwant();
            due.is("make() in " + state, x.make(), 0);
            due.is("densest() in " + state, x.densest(), -3);
            due.is("clear() in " + state, x.clear(), 0);
        }
    }

    private static void p26_howManyEdges_rowsOfZeros() {
        for (int count = 1; count <= 12; count++) {
            DegreeCores x = Graphs.withRow(Graphs.complete(12), Graphs.times(count, 0));
            due.is("make() of " + count, x.make(), 0);
            due.is("triangles() of " + count, x.triangles(), 0);
            due.is("coreSet(0) of " + count, x.coreSet(0), (1 << count) - 1);
            due.is("coreSet(1) of " + count, x.coreSet(1), 0);
        }
    }

    private static void p26_howManyEdges_allEdges() {
        for (int count = 1; count <= 12; count++) {
            DegreeCores x = Graphs.row(Graphs.times(count, count - 1));
            due.is("make() of " + count, x.make(), count * (count - 1) / 2);
            due.is("core(last) of " + count, x.core(count - 1), count - 1);
            due.is("clear() of " + count, x.clear(), count);
        }
    }

    private static void p26_theNodeThatWantsMost_theFirstOrTheLast() {
        DegreeCores first = Graphs.row(Graphs.then(11, 11, 1));
        due.is("make()", first.make(), 11);
        due.is("degree(0)", first.degree(0), 11);
        DegreeCores last = Graphs.row(1, 1, 1, 1, 1, 1, 1, 1, 1, 1, 1, 11);
        due.is("make()", last.make(), 11);
        due.is("degree(11)", last.degree(11), 11);
        due.is("joined(0, 1)", last.joined(0, 1), 0);
    }

    private static void p26_theLeastOfSeveral_allWantAlike() {
        DegreeCores ones = Graphs.row(Graphs.times(12, 1));
        due.is("make() of ones", ones.make(), 6);
        edgesAre(ones, 12, 0, 1, 2, 3, 4, 5, 6, 7, 8, 9, 10, 11);
        // 0 takes 1, 2; then 3, 6, 9 want most in turn; what is left wants 1 each.
        DegreeCores twos = Graphs.row(Graphs.times(12, 2));
        due.is("make() of twos", twos.make(), 12);
        edgesAre(twos, 12, 0, 1, 0, 2, 1, 2, 3, 4, 3, 5, 4, 5, 6, 7, 6, 8, 7, 8, 9, 10, 9, 11, 10, 11);
    }

    private static void p26_thoseOthersThatWantMost_ofSeveralTheLeastFirst() {
        // 4 wants most and takes 1, 3 (2 each), then 0 as the least of 0, 2, 5 (1 each).
        DegreeCores x = Graphs.row(1, 2, 1, 2, 3, 1);
        due.is("make()", x.make(), 5);
        // Left are 1, 3, 2, 5 with 1 each: 1 takes 2, then 3 takes 5.
        edgesAre(x, 6, 4, 1, 4, 3, 4, 0, 1, 2, 3, 5);
    }

    private static void p26_fromNoEdgesOn_theOldGraphIsGone() {
        DegreeCores more = Graphs.withRow(Graphs.complete(3), Graphs.times(12, 1));
        due.is("make() of more", more.make(), 6);
        edgesAre(more, 12, 0, 1, 2, 3, 4, 5, 6, 7, 8, 9, 10, 11);
        DegreeCores fewer = Graphs.withRow(Graphs.complete(12), 1, 0, 1);
        due.is("make() of fewer", fewer.make(), 1);
        edgesAre(fewer, 3, 0, 2);
        due.is("make() again", fewer.make(), 1);
        edgesAre(fewer, 3, 0, 2);
        DegreeCores one = Graphs.withRow(Graphs.complete(12), 0);
        due.is("make() of one", one.make(), 0);
        due.is("densest() of one", one.densest(), 1);
        due.is("degree(1) of one", one.degree(1), -1);
    }

    private static void p26_theRowStays() {
        DegreeCores x = Graphs.row(Graphs.times(12, 11));
        due.is("make()", x.make(), 66);
        x.clear();
        due.is("make() after clear", x.make(), 66);
        due.is("graphic()", x.graphic(), 1);
        due.is("want(1)", x.want(1), -4);
        due.is("unwant()", x.unwant(), 12);
    }

    private static void p26_minus3_itIsNotGraphic() {
        due.is("make() of 1", Graphs.row(1).make(), -3);
        due.is("make() of 20", Graphs.row(20).make(), -3);
        due.is("make() of 2 2", Graphs.row(2, 2).make(), -3);
        due.is("make() of 1 1 1", Graphs.row(1, 1, 1).make(), -3);
        due.is("make() of 3 3 1 1", Graphs.row(3, 3, 1, 1).make(), -3);
        due.is("make() of twelve 12", Graphs.row(Graphs.times(12, 12)).make(), -3);
        due.is("make() of twelve 20", Graphs.row(Graphs.times(12, 20)).make(), -3);
        due.is("make() of 13 and eleven 1", Graphs.row(Graphs.then(13, 11, 1)).make(), -3);
    }

    private static void p26_minus3_changesNothing() {
        // As many nodes as numbers, fewer, none at all; and below more.
        Watch.refused(due, State.TWELVE_NODES_ALL_EDGES_BAD_ROW, "make()", DegreeCores::make, -3);
        Watch.refused(due, State.FIVE_NODES_BAD_ROW_OF_EIGHT, "make()", DegreeCores::make, -3);
        Watch.refused(due, State.NO_NODES_BAD_ROW_OF_ONE, "make()", DegreeCores::make, -3);
        DegreeCores x = Graphs.withRow(Graphs.complete(5), 3, 3, 1, 1);
        due.is("make()", x.make(), -3);
        due.is("triangles()", x.triangles(), 10);
        due.is("clear()", x.clear(), 5);
        due.is("unwant()", x.unwant(), 4);
    }

    private static void p26_minus3_aMakingAfterOneThatFailed() {
        DegreeCores x = Graphs.row(3, 3, 1, 1);
        due.is("make()", x.make(), -3);
        x.unwant();
        Graphs.withRow(x, 0, 1, 1, 0);
        due.is("make() of another row", x.make(), 1);
        edgesAre(x, 4, 1, 2);
    }
}
