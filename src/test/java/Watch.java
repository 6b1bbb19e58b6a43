import java.util.ArrayList;
import java.util.EnumMap;
import java.util.List;
import java.util.Map;

/**
 * All that calls answer on an object in a state, told before and after a refused call. An object is
 * used for 512 calls at most, so the questions go to several objects that were made alike.
 */
final class Watch {
    private static final int MOST_CALLS = 512;
    private static final int CALLS_TO_BUILD = 144;
    private static final int NODES = 12;
    private static final int GROUPS = 8;
    private static final Map<State, List<List<Told>>> undisturbed = new EnumMap<>(State.class);

    /** A call on an object, with its arguments. */
    interface Call {
        int on(DegreeCores x);
    }

    private record Told(String call, int a, int b, int answer) {
    }

    private final DegreeCores x;
    private final List<Told> told = new ArrayList<>();

    private Watch(DegreeCores x) {
        this.x = x;
    }

    /** The call is refused as is due in this state, and what is told afterwards is as without it. */
    static void refused(Due due, State state, String call, Call asked, int refusal) {
        List<List<Told>> before = undisturbed.computeIfAbsent(state, Watch::undisturbed);
        for (int group = 0; group < GROUPS; group++) {
            DegreeCores x = state.build();
            due.is(call + " in " + state, asked.on(x), refusal);
            compare(due, call + " in " + state, before.get(group), tellGroup(x, group));
        }
    }

    /** Asking changes nothing: what is told afterwards is as without it, whatever it answered. */
    static void changesNothing(Due due, State state, String call, Call asked) {
        List<List<Told>> before = undisturbed.computeIfAbsent(state, Watch::undisturbed);
        for (int group = 0; group < GROUPS; group++) {
            DegreeCores x = state.build();
            asked.on(x);
            compare(due, call + " in " + state, before.get(group), tellGroup(x, group));
        }
    }

    private static List<List<Told>> undisturbed(State state) {
        List<List<Told>> all = new ArrayList<>();
        for (int group = 0; group < GROUPS; group++) {
            all.add(tellGroup(state.build(), group));
        }
        return all;
    }

    private static void compare(Due due, String call, List<Told> before, List<Told> after) {
        due.is("answers told after " + call, after.size(), before.size());
        for (int i = 0; i < Math.min(before.size(), after.size()); i++) {
            if (!before.get(i).equals(after.get(i))) {
                due.isTrue("after " + call + ": " + after.get(i) + ", without it: " + before.get(i), false);
                return;
            }
        }
    }

    private static List<Told> tellGroup(DegreeCores x, int group) {
        Watch watch = new Watch(x);
        switch (group) {
            case 0 -> watch.edgesAndNodes();
            case 1 -> watch.triangles(0, NODES * 9);
            case 2 -> watch.triangles(NODES * 9, 220);
            case 3 -> watch.edgesOneByOne();
            case 4 -> watch.sharesAndClasses();
            case 5 -> watch.making();
            case 6 -> watch.moreNodes();
            default -> watch.moreNumbers();
        }
        if (watch.told.size() + CALLS_TO_BUILD + 1 > MOST_CALLS) {
            throw new IllegalStateException("group " + group + " asks an object more than " + MOST_CALLS + " times");
        }
        return watch.told;
    }

    private void tell(String call, int a, int b, int answer) {
        told.add(new Told(call, a, b, answer));
    }

    private void edgesAndNodes() {
        for (int a = 0; a < NODES; a++) {
            for (int b = a + 1; b < NODES; b++) {
                tell("joined", a, b, x.joined(a, b));
            }
            tell("degree", a, 0, x.degree(a));
            tell("core", a, 0, x.core(a));
            tell("peeled", a, 0, x.peeled(a));
            tell("layer", a, 0, x.layer(a));
            tell("coreSet", a, 0, x.coreSet(a));
        }
        tell("clear", 0, 0, x.clear());
        tell("unwant", 0, 0, x.unwant());
    }

    private void triangles(int from, int to) {
        int count = x.triangles();
        tell("triangles", 0, 0, count);
        for (int i = from; i < Math.min(to, count); i++) {
            for (int which = 0; which < 3; which++) {
                tell("triangle", i, which, x.triangle(i, which));
            }
        }
    }

    private void edgesOneByOne() {
        for (int a = 0; a < NODES; a++) {
            for (int b = a + 1; b < NODES; b++) {
                tell("support", a, b, x.support(a, b));
                tell("truss", a, b, x.truss(a, b));
                tell("firm", a, b, x.firm(a, b));
            }
        }
    }

    private void sharesAndClasses() {
        for (int part = 0; part < 2; part++) {
            for (int a = 0; a < NODES; a++) {
                tell("cluster", a, part, x.cluster(a, part));
                tell("rich", a, part, x.rich(a, part));
            }
            tell("closed", part, 0, x.closed(part));
            tell("density", part, 0, x.density(part));
            tell("likeness", part, 0, x.likeness(part));
        }
        tell("densest", 0, 0, x.densest());
        tell("graphic", 0, 0, x.graphic());
        for (int v = 0; v < NODES; v++) {
            for (int k = 0; k <= NODES; k += 3) {
                tell("classOf", v, k, x.classOf(v, k));
            }
        }
    }

    private void making() {
        tell("make", 0, 0, x.make());
        edgesAndNodes();
    }

    private void moreNodes() {
        for (int i = 0; i <= NODES; i++) {
            tell("node", 0, 0, x.node());
        }
        for (int v = 0; v < NODES; v++) {
            tell("degree", v, 0, x.degree(v));
            tell("join", v, (v + 1) % NODES, x.join(v, (v + 1) % NODES, true));
            tell("join", v, (v + 2) % NODES, x.join(v, (v + 2) % NODES, false));
        }
        edgesAndNodes();
    }

    private void moreNumbers() {
        for (int i = 0; i <= NODES; i++) {
            tell("want", 2, 0, x.want(2));
        }
        tell("graphic", 0, 0, x.graphic());
        making();
    }
}
