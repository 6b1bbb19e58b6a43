import java.lang.reflect.InvocationTargetException;

/** The boundary cases of the sections 'What it is' and 'Terms', where a sentence is of several calls. */
public final class TermsBoundaryTest {
    private static final int MOST_CALLS = 512;
    private static final int FAR = Integer.MAX_VALUE;
    private static final int DEEP = Integer.MIN_VALUE;
    private static final Due due = new Due();

    private TermsBoundaryTest() {
    }

    public static void main(String[] args) throws IllegalAccessException, InvocationTargetException {
        Sentences.runAll(TermsBoundaryTest.class, due);
    }

    private record Asked(String call, int due, Watch.Call on) {
    }

    /** Each call of the face once, on nodes 0 .. 3 each joined with each and a row of 1, 1. */
    private static final Asked[] EACH_CALL = {
        new Asked("node()", 4, DegreeCores::node),
        new Asked("join(0, 1, false)", 1, x -> x.join(0, 1, false)),
        new Asked("joined(0, 3)", 1, x -> x.joined(0, 3)),
        new Asked("clear()", 4, DegreeCores::clear),
        new Asked("degree(3)", 3, x -> x.degree(3)),
        new Asked("core(3)", 3, x -> x.core(3)),
        new Asked("coreSet(3)", 15, x -> x.coreSet(3)),
        new Asked("peeled(3)", 3, x -> x.peeled(3)),
        new Asked("layer(3)", 1, x -> x.layer(3)),
        new Asked("triangles()", 4, DegreeCores::triangles),
        new Asked("triangle(3, 2)", 3, x -> x.triangle(3, 2)),
        new Asked("support(0, 3)", 2, x -> x.support(0, 3)),
        new Asked("truss(0, 3)", 4, x -> x.truss(0, 3)),
        new Asked("cluster(3, 1)", 1, x -> x.cluster(3, 1)),
        new Asked("closed(0)", 1, x -> x.closed(0)),
        new Asked("densest()", 15, DegreeCores::densest),
        new Asked("density(0)", 3, x -> x.density(0)),
        new Asked("firm(0, 3)", 3, x -> x.firm(0, 3)),
        new Asked("classOf(3, 3)", 0, x -> x.classOf(3, 3)),
        new Asked("likeness(0)", -3, x -> x.likeness(0)),
        new Asked("rich(2, 0)", 1, x -> x.rich(2, 0)),
        new Asked("want(1)", 3, x -> x.want(1)),
        new Asked("unwant()", 2, DegreeCores::unwant),
        new Asked("graphic()", 1, DegreeCores::graphic),
        new Asked("make()", 1, DegreeCores::make),
    };

    /** Four nodes, six edges, two numbers: 12 calls. */
    private static DegreeCores four() {
        return Graphs.withRow(Graphs.complete(4), 1, 1);
    }

    private static void whatItIs_atMost512Calls_the512thOfEachKind() {
        due.is("kinds of calls", EACH_CALL.length, 25);
        for (Asked last : EACH_CALL) {
            DegreeCores x = four();
            for (int call = 13; call < MOST_CALLS; call++) {
                due.is("joined(0, 1) as call " + call, x.joined(0, 1), 1);
            }
            due.is(last.call + " as call 512", last.on.on(x), last.due);
        }
    }

    private static void whatItIs_atMost512Calls_theSameQuestionAgainAndAgain() {
        for (Asked asked : EACH_CALL) {
            if (asked.call.matches("(node|join|clear|want|unwant|make)\\(.*")) {
                continue;
            }
            DegreeCores x = four();
            for (int call = 13; call <= MOST_CALLS; call++) {
                due.is(asked.call + " as call " + call, asked.on.on(x), asked.due);
            }
        }
    }

    private static void whatItIs_atMost512Calls_nodesThatComeAndGo() {
        DegreeCores x = new DegreeCores();
        for (int turn = 0; turn < 36; turn++) {
            for (int v = 0; v < 12; v++) {
                due.is("node()", x.node(), v);
            }
            due.is("node() 13th", x.node(), -4);
            due.is("clear()", x.clear(), 12);
        }
        // 504 calls so far.
        for (int v = 0; v < 8; v++) {
            due.is("node()", x.node(), v);
        }
    }

    private static void whatItIs_atMost512Calls_edgesThatComeAndGo() {
        DegreeCores x = Graphs.graph(12);
        for (int call = 13; call < MOST_CALLS; call += 2) {
            due.is("join(0, 11, true)", x.join(0, 11, true), 1);
            due.is("join(11, 0, false)", x.join(11, 0, false), 1);
        }
    }

    private static void whatItIs_atMost512Calls_rowsThatComeAndGo() {
        DegreeCores x = new DegreeCores();
        for (int turn = 0; turn < 32; turn++) {
            for (int count = 1; count <= 12; count++) {
                due.is("want(11)", x.want(11), count);
            }
            due.is("want(11) 13th", x.want(11), -4);
            due.is("make()", x.make(), 66);
            due.is("graphic()", x.graphic(), 1);
            due.is("unwant()", x.unwant(), 12);
        }
    }

    private static void whatItIs_atMost512Calls_refusedAllAlong() {
        DegreeCores x = four();
        for (int call = 13; call < MOST_CALLS - 3; call += 4) {
            due.is("join(0, 4, true)", x.join(0, 4, true), -1);
            due.is("want(21)", x.want(21), -2);
            due.is("likeness(1)", x.likeness(1), -3);
            due.is("classOf(0, DEEP)", x.classOf(0, DEEP), -2);
        }
        due.is("triangles()", x.triangles(), 4);
        due.is("unwant()", x.unwant(), 2);
        due.is("clear()", x.clear(), 4);
    }

    private static void terms_12NodesAtMost_howeverTheyCome() {
        DegreeCores x = Graphs.graph(12);
        due.is("node()", x.node(), -4);
        due.is("join(11, 12, true)", x.join(11, 12, true), -1);
        due.is("peeled(11)", x.peeled(11), 11);
        due.is("peeled(12)", x.peeled(12), -1);
        DegreeCores made = Graphs.row(Graphs.times(12, 0));
        made.make();
        due.is("node() after making", made.node(), -4);
        due.is("clear() after making", made.clear(), 12);
    }

    private static void terms_setsAsBits_theLeastAndTheGreatestBit() {
        DegreeCores least = Graphs.graph(12, 0, 1, 1, 2, 2, 0);
        due.is("coreSet(2) of the least", least.coreSet(2), 7);
        due.is("densest() of the least", least.densest(), 7);
        DegreeCores greatest = Graphs.graph(12, 9, 10, 10, 11, 11, 9);
        due.is("coreSet(2) of the greatest", greatest.coreSet(2), 7 << 9);
        due.is("densest() of the greatest", greatest.densest(), 7 << 9);
    }

    private static void terms_0is0by1_inEveryShare() {
        DegreeCores star = Graphs.star(3);
        int[][] told = {
            {star.cluster(0, 0), star.cluster(0, 1)},
            {star.closed(0), star.closed(1)},
            {Graphs.graph(3).density(0), Graphs.graph(3).density(1)},
            {Graphs.graph(6, 0, 1, 0, 2, 3, 4, 3, 5).rich(1, 0), Graphs.graph(6, 0, 1, 0, 2, 3, 4, 3, 5).rich(1, 1)},
            {Graphs.graph(6, 4, 1, 1, 0, 0, 5, 2, 3).likeness(0), Graphs.graph(6, 4, 1, 1, 0, 0, 5, 2, 3).likeness(1)},
        };
        for (int i = 0; i < told.length; i++) {
            due.is("share " + i + " above", told[i][0], 0);
            due.is("share " + i + " below", told[i][1], 1);
        }
    }

    private static void terms_coreNumber_isTheGreatestKWhoseCoreItIsIn() {
        for (State state : State.values()) {
            DegreeCores x = state.build();
            for (int v = 0; v < state.nodes; v++) {
                int k = x.core(v);
                due.is("in core " + k + " in " + state, x.coreSet(k) >> v & 1, 1);
                due.is("not in core " + (k + 1) + " in " + state, x.coreSet(k + 1) >> v & 1, 0);
            }
        }
    }

    private static void terms_refusalsChangeNothing_severalInARow() {
        for (State state : State.values()) {
            Watch.changesNothing(due, state, "many refused calls", x -> {
                x.join(0, 12, true);
                x.join(12, 0, true);
                x.join(0, 0, true);
                x.join(FAR, DEEP, false);
                x.joined(DEEP, FAR);
                x.coreSet(-1);
                x.triangle(-1, -1);
                x.truss(0, FAR);
                x.cluster(0, 2);
                x.closed(DEEP);
                x.density(FAR);
                x.firm(0, 0);
                x.classOf(0, DEEP);
                x.likeness(2);
                x.rich(-1, -1);
                x.want(-1);
                return x.want(21);
            });
        }
    }

    private static void terms_questionsChangeNothing() {
        for (State state : State.values()) {
            Watch.changesNothing(due, state, "many questions", x -> {
                int sum = 0;
                for (Asked asked : EACH_CALL) {
                    if (!asked.call.matches("(node|join|clear|want|unwant|make)\\(.*")) {
                        sum += asked.on.on(x);
                    }
                }
                return sum;
            });
        }
    }

    private static void terms_theFirstThatFits_everyTwoAtOnce() {
        DegreeCores none = new DegreeCores();
        due.is("-1 before -2: triangle(0, 3)", none.triangle(0, 3), -1);
        due.is("-1 before -2: cluster(0, 2)", none.cluster(0, 2), -1);
        due.is("-1 before -2: classOf(0, -1)", none.classOf(0, -1), -1);
        due.is("-2 before -3: cluster(0, 2)", Graphs.graph(1).cluster(0, 2), -2);
        due.is("-2 before -3: closed(2)", none.closed(2), -2);
        due.is("-2 before -3: density(2)", none.density(2), -2);
        due.is("-2 before -3: likeness(2)", none.likeness(2), -2);
        due.is("-2 before -3: rich(0, 2)", none.rich(0, 2), -2);
        due.is("-2 before -3: rich(-1, 0)", none.rich(-1, 0), -2);
        due.is("-2 before -4: want(21)", State.NO_NODES_FULL_ROW.build().want(21), -2);
        due.is("-2 before -4: want(-1)", State.NO_NODES_FULL_ROW.build().want(-1), -2);
    }
}
