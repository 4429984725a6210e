import java.util.function.Supplier;

/**
 * All that can be seen of an object, as a text. It asks more than one object may be asked, so it
 * takes another one, made in the same way, when one has been used up.
 */
final class Sight {
    /** One question, or one change that answers what was before it. */
    interface Ask {
        long of(TreeOfArcs x);
    }

    /** Of the 512 calls of an object the rest is left for making it. */
    private static final int MOST_ASKED = 300;

    private final Supplier<TreeOfArcs> maker;
    private final StringBuilder text = new StringBuilder();
    private TreeOfArcs x;
    private int asked;

    private Sight(Supplier<TreeOfArcs> maker) {
        this.maker = maker;
        takeNewObject();
    }

    static String of(Supplier<TreeOfArcs> maker) {
        Sight sight = new Sight(maker);
        int nodes = sight.see("nodes", x -> x.about(0));
        int arcs = sight.see("arcs", x -> x.about(1));
        int sets = sight.see("sets", TreeOfArcs::sets);
        sight.seeWhole();
        for (int node = 0; node < nodes; node++) {
            sight.seeNode(node);
        }
        for (int arc = 0; arc < arcs; arc++) {
            sight.seeArc(arc);
        }
        for (int k = 0; k < sets; k++) {
            sight.seeSet(k, nodes);
        }
        sight.seeByChanging(arcs);
        return sight.text.toString();
    }

    private void seeWhole() {
        see("open arcs", x -> x.about(2));
        see("root", x -> x.about(3));
        see("is solved", x -> x.about(4));
        see("cost", TreeOfArcs::cost);
    }

    private void seeNode(int node) {
        see("into", x -> x.into(node));
        see("is reached", x -> x.isReached(node) ? 1 : 0);
        see("depth", x -> x.depth(node));
        see("far", x -> x.far(node));
    }

    private void seeArc(int arc) {
        for (int what = 0; what < 4; what++) {
            int told = what;
            see("told " + what, x -> x.told(arc, told));
        }
        see("slack", x -> x.slack(arc));
    }

    private void seeSet(int k, int nodes) {
        for (int what = 0; what < 4; what++) {
            int told = what;
            see("set " + what, x -> x.set(k, told));
        }
        see("dual", x -> x.dual(k));
        for (int node = 0; node < nodes; node++) {
            int it = node;
            see("is in", x -> x.isIn(k, it) ? 1 : 0);
        }
    }

    /** Weights, the next arc's number and what solve would find are not told without a change. */
    private void seeByChanging(int arcs) {
        takeNewObject();
        for (int arc = 0; arc < arcs; arc++) {
            int it = arc;
            see("weight", x -> x.weigh(it, 0));
        }
        takeNewObject();
        see("solve", TreeOfArcs::solve);
        see("cost then", TreeOfArcs::cost);
        see("sets then", TreeOfArcs::sets);
        see("next arc", x -> x.arc(0, 1, 1));
    }

    private int see(String what, Ask ask) {
        if (asked == MOST_ASKED) {
            takeNewObject();
        }
        asked++;
        String outcome = Check.outcome(() -> ask.of(x));
        text.append(what).append(' ').append(outcome).append('\n');
        return outcome.matches("\\d{1,9}") ? Integer.parseInt(outcome) : 0;
    }

    private void takeNewObject() {
        x = maker.get();
        asked = 0;
    }
}
