import java.util.function.Supplier;

/** States at the document's bounds (and one between), in which calls are asked and refused. */
enum State {
    NO_NODES_EMPTY_ROW(0, 0, DegreeCores::new),
    NO_NODES_FULL_ROW(0, 12, () -> Graphs.row(Graphs.times(12, 11))),
    NO_NODES_BAD_ROW_OF_ONE(0, 1, () -> Graphs.row(1)),
    ONE_NODE_ROW_OF_ONE(1, 1, () -> Graphs.withRow(Graphs.graph(1), 0)),
    FIVE_NODES_BAD_ROW_OF_EIGHT(5, 8, () -> Graphs.withRow(Graphs.complete(5), 7, 7, 1, 1, 1, 1, 1, 1)),
    TWELVE_NODES_NO_EDGES_FULL_ROW(12, 12, () -> Graphs.withRow(Graphs.graph(12), Graphs.then(11, 11, 1))),
    TWELVE_NODES_ALL_EDGES_BAD_ROW(12, 12, () -> Graphs.withRow(Graphs.complete(12), Graphs.times(12, 20))),
    ALL_EDGES_TAKEN_AWAY(12, 0, State::bared),
    SEVEN_NODES_ROW_OF_THREE(7, 3, () -> Graphs.withRow(Graphs.tailed(), 1, 2, 1));

    final int nodes;
    final int numbers;
    private final Supplier<DegreeCores> maker;

    State(int nodes, int numbers, Supplier<DegreeCores> maker) {
        this.nodes = nodes;
        this.numbers = numbers;
        this.maker = maker;
    }

    DegreeCores build() {
        return maker.get();
    }

    /** Arguments that are no node here: the first below, the first above, and farther ones. */
    int[] notNodes() {
        return new int[] {-1, nodes, 12, 13, 32, Integer.MAX_VALUE, Integer.MIN_VALUE};
    }

    private static DegreeCores bared() {
        DegreeCores x = Graphs.complete(12);
        for (int a = 0; a < 12; a++) {
            for (int b = a + 1; b < 12; b++) {
                x.join(a, b, false);
            }
        }
        return x;
    }
}
