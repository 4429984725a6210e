/**
 * "Methods throw what their comments name, the one named first when several would do; a call that
 * throws, or answers NONE, changes nothing": each call that is refused, from each start, with what
 * it is due and all that can be seen of the object before and behind it. So with each call that
 * only asks.
 */
public final class RefusalsTest {
    private static final Check CHECK = new Check("RefusalsTest");

    private static final int MIN = Integer.MIN_VALUE;
    private static final int MAX = Integer.MAX_VALUE;
    private static final long MOST_WEIGHT = Start.MOST_WEIGHT;
    private static final long[] NO_WEIGHTS = {
        -1, MOST_WEIGHT + 1, Long.MIN_VALUE, Long.MAX_VALUE, -MOST_WEIGHT, 2 * MOST_WEIGHT,
        // Within the bounds, but only for one that looks at an int or at the bits of a weight.
        5 - (1L << 32), (1L << 62) + 5, Long.MIN_VALUE + 5,
    };

    private static final String NO_INDEX = "throws.IndexOutOfBoundsException";
    private static final String NO_ARGUMENT = "throws.IllegalArgumentException";
    private static final String NO_STATE = "throws.IllegalStateException";

    private final Start start;
    private final String before;

    private RefusalsTest(Start start) {
        this.start = start;
        before = Sight.of(start::make);
    }

    public static void main(String[] args) {
        for (Start start : Start.values()) {
            RefusalsTest test = new RefusalsTest(start);
            test.startIsAsWritten();
            test.refusedNodes();
            test.refusedArcs();
            test.refusedChangesOfArcs();
            test.refusedAsksOfNodes();
            test.refusedAsksOfSets();
            test.refusedAsksOfArcs();
            test.refusedAbouts();
            test.answersNone();
            test.asksOfNodesAndArcs();
            test.asksOfSets();
        }
        CHECK.end();
    }

    private void startIsAsWritten() {
        TreeOfArcs x = start.make();
        CHECK.same(start + ": nodes", x.about(0), start.nodes);
        CHECK.same(start + ": arcs", x.about(1), start.arcs);
        CHECK.same(start + ": root", x.about(3), start.root);
        CHECK.same(start + ": solved", x.about(4), start.isSolved() ? 1 : 0);
        CHECK.same(start + ": sets", x.sets(), start.sets);
        CHECK.same(start + ": tree", x.cost() != TreeOfArcs.NONE, start.hasTree());
    }

    private void unchanged(String call, String due, Sight.Ask ask) {
        String where = start + ": " + call;
        CHECK.sameText(where, Check.outcome(() -> ask.of(start.make())), due);
        leavesAll(where, ask);
    }

    private void leavesAll(String where, Sight.Ask ask) {
        String behind = Sight.of(() -> {
            TreeOfArcs x = start.make();
            Check.outcome(() -> ask.of(x));
            return x;
        });
        CHECK.same(where + ": all is as it was", behind.equals(before), true);
    }

    /** Numbers that are not 0 .. limit - 1: the first beyond each end, and such as wrap around. */
    private static int[] outside(int limit) {
        return new int[] {
            -1, limit, limit + 1, -2, -limit - 1, MIN, MAX, MIN + 1, MIN + limit,
            64, 128, 256, 65536,
        };
    }

    private static long callNodes(TreeOfArcs x, int n, int root) {
        x.nodes(n, root);
        return 0;
    }

    private void refusedNodes() {
        for (int n : new int[] {0, 25, -1, 26, 32, 33, 256, 257, MIN, MAX, MIN + 1}) {
            for (int root : new int[] {0, n - 1, n, -1}) {
                refusedNodes(n, root);
            }
        }
        for (int n : new int[] {1, 2, 4, 24}) {
            for (int root : outside(n)) {
                refusedNodes(n, root);
            }
        }
    }

    private void refusedNodes(int n, int root) {
        unchanged("nodes(" + n + ", " + root + ")", NO_ARGUMENT, x -> callNodes(x, n, root));
    }

    private void refusedArcs() {
        for (int no : outside(start.nodes)) {
            refusedArc(NO_INDEX, no, 0, 1);
            refusedArc(NO_INDEX, start.nodes - 1, no, 1);
            refusedArc(NO_INDEX, no, no, 1);
            refusedArc(NO_INDEX, 0, no, -1);
            refusedArc(NO_INDEX, no, 0, MOST_WEIGHT + 1);
            refusedArc(NO_INDEX, no, no, Long.MIN_VALUE);
        }
        for (int node = 0; node < start.nodes; node++) {
            refusedArc(NO_ARGUMENT, node, node, 1);
            refusedArc(NO_ARGUMENT, node, node, -1);
        }
        for (long no : NO_WEIGHTS) {
            if (start.nodes > 1) {
                refusedArc(NO_ARGUMENT, 0, start.nodes - 1, no);
                refusedArc(NO_ARGUMENT, start.nodes - 1, 0, no);
            }
        }
    }

    private void refusedArc(String due, int from, int to, long weight) {
        unchanged("arc(" + from + ", " + to + ", " + weight + ")", due,
                x -> x.arc(from, to, weight));
    }

    private void refusedChangesOfArcs() {
        for (int no : outside(start.arcs)) {
            unchanged("weigh(" + no + ", 1)", NO_INDEX, x -> x.weigh(no, 1));
            unchanged("weigh(" + no + ", -1)", NO_INDEX, x -> x.weigh(no, -1));
            unchanged("weigh(" + no + ", 2^40 + 1)", NO_INDEX, x -> x.weigh(no, MOST_WEIGHT + 1));
            unchanged("open(" + no + ", true)", NO_INDEX, x -> x.open(no, true) ? 1 : 0);
            unchanged("open(" + no + ", false)", NO_INDEX, x -> x.open(no, false) ? 1 : 0);
        }
        for (int arc : ends(start.arcs)) {
            for (long no : NO_WEIGHTS) {
                unchanged("weigh(" + arc + ", " + no + ")", NO_ARGUMENT, x -> x.weigh(arc, no));
            }
        }
    }

    private void refusedAsksOfNodes() {
        for (int no : outside(start.nodes)) {
            unchanged("into(" + no + ")", NO_INDEX, x -> x.into(no));
            unchanged("isReached(" + no + ")", NO_INDEX, x -> x.isReached(no) ? 1 : 0);
            unchanged("depth(" + no + ")", NO_INDEX, x -> x.depth(no));
            unchanged("far(" + no + ")", NO_INDEX, x -> x.far(no));
        }
    }

    private void refusedAsksOfSets() {
        for (int no : outside(start.sets)) {
            unchanged("dual(" + no + ")", NO_INDEX, x -> x.dual(no));
            for (int what = -1; what <= 4; what++) {
                refusedSet(no, what);
            }
            for (int node = -1; node <= start.nodes; node++) {
                refusedIsIn(no, node);
            }
        }
        for (int k : ends(start.sets)) {
            for (int what : outside(4)) {
                refusedSet(k, what);
            }
            for (int node : outside(start.nodes)) {
                refusedIsIn(k, node);
            }
        }
    }

    private void refusedSet(int k, int what) {
        unchanged("set(" + k + ", " + what + ")", NO_INDEX, x -> x.set(k, what));
    }

    private void refusedIsIn(int k, int node) {
        unchanged("isIn(" + k + ", " + node + ")", NO_INDEX, x -> x.isIn(k, node) ? 1 : 0);
    }

    private void refusedAsksOfArcs() {
        for (int no : outside(start.arcs)) {
            unchanged("slack(" + no + ")", NO_INDEX, x -> x.slack(no));
            for (int what = -1; what <= 4; what++) {
                refusedTold(no, what);
            }
        }
        for (int arc : ends(start.arcs)) {
            for (int what : outside(4)) {
                refusedTold(arc, what);
            }
            if (!start.hasTree()) {
                unchanged("slack(" + arc + ")", NO_STATE, x -> x.slack(arc));
            }
        }
    }

    private void refusedTold(int arc, int what) {
        unchanged("told(" + arc + ", " + what + ")", NO_INDEX, x -> x.told(arc, what));
    }

    private void refusedAbouts() {
        for (int what : outside(5)) {
            unchanged("about(" + what + ")", NO_INDEX, x -> x.about(what));
        }
    }

    private void answersNone() {
        if (start.arcs == 60) {
            unchanged("arc(0, 23, 0)", "-1", x -> x.arc(0, 23, 0));
            unchanged("arc(23, 0, 2^40)", "-1", x -> x.arc(23, 0, MOST_WEIGHT));
        }
        unchanged("into the root", "-1", x -> x.into(start.root));
        if (start.hasTree()) {
            return;
        }
        unchanged("cost()", "-1", TreeOfArcs::cost);
        for (int node = 0; node < start.nodes; node++) {
            int it = node;
            unchanged("into(" + node + ")", "-1", x -> x.into(it));
            unchanged("depth(" + node + ")", "-1", x -> x.depth(it));
            unchanged("far(" + node + ")", "-1", x -> x.far(it));
        }
    }

    private void asksOfNodesAndArcs() {
        leavesAll("cost()", TreeOfArcs::cost);
        leavesAll("sets()", TreeOfArcs::sets);
        for (int what = 0; what < 5; what++) {
            int it = what;
            leavesAll("about(" + what + ")", x -> x.about(it));
        }
        for (int node : ends(start.nodes)) {
            leavesAll("into(" + node + ")", x -> x.into(node));
            leavesAll("isReached(" + node + ")", x -> x.isReached(node) ? 1 : 0);
            leavesAll("depth(" + node + ")", x -> x.depth(node));
            leavesAll("far(" + node + ")", x -> x.far(node));
        }
        for (int arc : ends(start.arcs)) {
            leavesAll("slack(" + arc + ")", x -> x.slack(arc));
            for (int what = 0; what < 4; what++) {
                int it = what;
                leavesAll("told(" + arc + ", " + what + ")", x -> x.told(arc, it));
            }
        }
    }

    private void asksOfSets() {
        for (int k : ends(start.sets)) {
            leavesAll("dual(" + k + ")", x -> x.dual(k));
            for (int what = 0; what < 4; what++) {
                int it = what;
                leavesAll("set(" + k + ", " + what + ")", x -> x.set(k, it));
            }
            for (int node : ends(start.nodes)) {
                leavesAll("isIn(" + k + ", " + node + ")", x -> x.isIn(k, node) ? 1 : 0);
            }
        }
    }

    /** The first and the last of so many. */
    private static int[] ends(int many) {
        return many == 0 ? new int[0] : new int[] {0, many - 1};
    }
}
