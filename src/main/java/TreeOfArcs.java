import java.util.Arrays;

/**
 * The cheapest tree of arcs from a root to all other nodes, with the sets of nodes whose duals
 * prove that none is cheaper. What each call promises stands in DOC.md.
 */
public final class TreeOfArcs {
    public static final int NONE = -1;

    private static final int MOST_NODES = 24;
    private static final int MOST_ARCS = 60;
    private static final long MOST_WEIGHT = 1L << 40;
    /** Sets that lie within one another or apart, over m nodes, are at most 2m - 1; the root is in none. */
    private static final int MOST_SETS = 2 * (MOST_NODES - 1) - 1;

    private final Net net;
    private final Nest nest;
    private final Tree tree;
    private boolean isSolved;
    private boolean hasTree;

    public TreeOfArcs() {
        net = new Net();
        nest = new Nest(net);
        tree = new Tree(net, nest);
        isSolved = false;
        hasTree = false;
    }

    public void nodes(int n, int root) throws IllegalArgumentException {
        if (n < 1 || n > MOST_NODES) {
            throw new IllegalArgumentException("the nodes are not 1 .. 24");
        }
        if (root < 0 || root >= n) {
            throw new IllegalArgumentException("the root is none of the nodes");
        }
        net.nodeCount = n;
        net.root = root;
        net.arcCount = 0;
        forgetSolution();
    }

    public int arc(int from, int to, long weight)
            throws IndexOutOfBoundsException, IllegalArgumentException {
        checkNode(from);
        checkNode(to);
        if (from == to) {
            throw new IllegalArgumentException("an arc goes to another node");
        }
        checkWeight(weight);
        int added = net.addArc(from, to, weight);
        if (added != NONE) {
            forgetSolution();
        }
        return added;
    }

    public long weigh(int arc, long weight)
            throws IndexOutOfBoundsException, IllegalArgumentException {
        checkArc(arc);
        checkWeight(weight);
        long before = net.weight[arc];
        net.weight[arc] = weight;
        forgetSolution();
        return before;
    }

    public boolean open(int arc, boolean is) throws IndexOutOfBoundsException {
        checkArc(arc);
        boolean before = net.isOpen[arc];
        net.isOpen[arc] = is;
        forgetSolution();
        return before;
    }

    public int solve() {
        int unreached = net.nodeCount - Integer.bitCount(net.reachedNodes());
        isSolved = true;
        hasTree = unreached == 0;
        if (hasTree) {
            nest.grow();
            tree.unfold();
        }
        return unreached;
    }

    public long cost() {
        return hasTree ? tree.sumOfWeights() : NONE;
    }

    public int into(int node) throws IndexOutOfBoundsException {
        checkNode(node);
        return hasTree ? tree.arcInto[node] : NONE;
    }

    public boolean isReached(int node) throws IndexOutOfBoundsException {
        checkNode(node);
        return holds(net.reachedNodes(), node);
    }

    public int sets() {
        return hasTree ? nest.count : 0;
    }

    public int set(int k, int what) throws IndexOutOfBoundsException {
        checkSet(k);
        int s = nest.byNumber[k];
        switch (what) {
            case 0:
                return Integer.bitCount(nest.members[s]);
            case 1:
                return nest.arcOf[s];
            case 2:
                return asNumber(nest.outer[s] == NONE);
            case 3:
                return nest.numberOfOuter(s);
            default:
                throw new IndexOutOfBoundsException("nothing such is told of a set");
        }
    }

    public boolean isIn(int k, int node) throws IndexOutOfBoundsException {
        checkSet(k);
        checkNode(node);
        return holds(nest.members[nest.byNumber[k]], node);
    }

    public long dual(int k) throws IndexOutOfBoundsException {
        checkSet(k);
        return nest.dualWeight[nest.byNumber[k]];
    }

    public long slack(int arc) throws IndexOutOfBoundsException, IllegalStateException {
        checkArc(arc);
        if (!hasTree) {
            throw new IllegalStateException("there is no tree, or it was not solved");
        }
        return net.weight[arc] - nest.sumOfDualsEntered(arc);
    }

    public int about(int what) throws IndexOutOfBoundsException {
        switch (what) {
            case 0:
                return net.nodeCount;
            case 1:
                return net.arcCount;
            case 2:
                return net.openCount();
            case 3:
                return net.root;
            case 4:
                return asNumber(isSolved);
            default:
                throw new IndexOutOfBoundsException("nothing such is told");
        }
    }

    public int told(int arc, int what) throws IndexOutOfBoundsException {
        checkArc(arc);
        switch (what) {
            case 0:
                return net.from[arc];
            case 1:
                return net.to[arc];
            case 2:
                return asNumber(net.isOpen[arc]);
            case 3:
                return asNumber(hasTree && tree.hasArc(arc));
            default:
                throw new IndexOutOfBoundsException("nothing such is told of an arc");
        }
    }

    public int depth(int node) throws IndexOutOfBoundsException {
        checkNode(node);
        return hasTree ? tree.arcsOnWayTo(node) : NONE;
    }

    public long far(int node) throws IndexOutOfBoundsException {
        checkNode(node);
        return hasTree ? tree.weightOfWayTo(node) : NONE;
    }

    private void forgetSolution() {
        isSolved = false;
        hasTree = false;
    }

    private void checkNode(int node) {
        if (!net.isNode(node)) {
            throw new IndexOutOfBoundsException("there is no such node");
        }
    }

    private void checkArc(int arc) {
        if (!net.isArc(arc)) {
            throw new IndexOutOfBoundsException("there is no such arc");
        }
    }

    private void checkSet(int k) {
        if (!hasTree || k < 0 || k >= nest.count) {
            throw new IndexOutOfBoundsException("there is no such set");
        }
    }

    private static void checkWeight(long weight) {
        if (weight < 0 || weight > MOST_WEIGHT) {
            throw new IllegalArgumentException("the weight is not 0 .. 2^40");
        }
    }

    private static int asNumber(boolean is) {
        return is ? 1 : 0;
    }

    /** Nodes together are the bits of one int, since there are but 24. */
    private static boolean holds(int nodes, int node) {
        return (nodes >> node & 1) == 1;
    }

    /** The nodes and arcs as they were given. */
    private static final class Net {
        final int[] from = new int[MOST_ARCS];
        final int[] to = new int[MOST_ARCS];
        final long[] weight = new long[MOST_ARCS];
        final boolean[] isOpen = new boolean[MOST_ARCS];
        int nodeCount = 1;
        int root = 0;
        int arcCount = 0;

        Net() {
        }

        boolean isNode(int node) {
            return node >= 0 && node < nodeCount;
        }

        boolean isArc(int arc) {
            return arc >= 0 && arc < arcCount;
        }

        int addArc(int start, int end, long itsWeight) {
            if (arcCount >= MOST_ARCS) {
                return NONE;
            }
            int arc = arcCount;
            from[arc] = start;
            to[arc] = end;
            weight[arc] = itsWeight;
            isOpen[arc] = true;
            arcCount++;
            return arc;
        }

        int openCount() {
            int count = 0;
            for (int arc = 0; arc < arcCount; arc++) {
                if (isOpen[arc]) {
                    count++;
                }
            }
            return count;
        }

        /** Whether an arc comes into some nodes from outside. */
        boolean enters(int arc, int nodes) {
            return holds(nodes, to[arc]) && !holds(nodes, from[arc]);
        }

        int reachedNodes() {
            int reached = 1 << root;
            // Each round but the last comes to a node more, so there are no more rounds than nodes.
            for (int round = 0; round < nodeCount; round++) {
                int wider = oneRoundFurther(reached);
                if (wider == reached) {
                    break;
                }
                reached = wider;
            }
            return reached;
        }

        private int oneRoundFurther(int reached) {
            int wider = reached;
            for (int arc = 0; arc < arcCount; arc++) {
                if (isOpen[arc] && holds(wider, from[arc])) {
                    wider |= 1 << to[arc];
                }
            }
            return wider;
        }
    }

    /**
     * The sets, in the order in which they were made: a set stands behind all its parts. It may be
     * grown only when all nodes are reached, for then an arc comes into every set.
     *
     * The second parts of the pairs fit a long. The duals of the parts of a set that hold a node v
     * add up to the pairs of the arcs that make its rings, less those of its tree that starts at v;
     * each of the two is a sum of different powers of two below 2^60.
     */
    private static final class Nest {
        final int[] members = new int[MOST_SETS];
        final int[] arcOf = new int[MOST_SETS];
        /** The least set around a set; NONE while it is live. */
        final int[] outer = new int[MOST_SETS];
        final long[] dualWeight = new long[MOST_SETS];
        final long[] dualPower = new long[MOST_SETS];
        final int[] byNumber = new int[MOST_SETS];
        int count = 0;

        private final Net net;
        private final int[] numberOf = new int[MOST_SETS];
        /** The node from which a walk first came to a set; NONE before one did. */
        private final int[] walkOf = new int[MOST_SETS];
        /** The live set with a node in it; NONE for the root. */
        private final int[] home = new int[MOST_NODES];
        /** The sums of the duals of all sets so far that hold a node. */
        private final long[] heldWeight = new long[MOST_NODES];
        private final long[] heldPower = new long[MOST_NODES];

        Nest(Net net) {
            this.net = net;
        }

        void grow() {
            count = 0;
            Arrays.fill(home, NONE);
            Arrays.fill(heldWeight, 0L);
            Arrays.fill(heldPower, 0L);
            for (int node = 0; node < net.nodeCount; node++) {
                if (node != net.root) {
                    addSet(1 << node);
                }
            }
            for (int node = 0; node < net.nodeCount; node++) {
                walkBackFrom(node);
            }
            numberSets();
        }

        int numberOfOuter(int s) {
            int around = outer[s];
            return around == NONE ? NONE : numberOf[around];
        }

        long sumOfDualsEntered(int arc) {
            long sum = 0;
            for (int s = 0; s < count; s++) {
                if (net.enters(arc, members[s])) {
                    sum += dualWeight[s];
                }
            }
            return sum;
        }

        /**
         * Joins all rings that one comes to against the arcs. A set of an earlier walk ends this
         * one: from there on the way goes to the root, and no ring can lie on it.
         */
        private void walkBackFrom(int node) {
            int s = home[node];
            // A step comes to a set for the first time, or makes a new one.
            for (int step = 0; step < 2 * MOST_SETS && s != NONE; step++) {
                if (walkOf[s] == NONE) {
                    walkOf[s] = node;
                    s = setBefore(s);
                } else if (walkOf[s] == node) {
                    s = addSet(nodesOfRing(s));
                } else {
                    break;
                }
            }
        }

        /** The live set that the arc of a set comes from; NONE when that is the root. */
        private int setBefore(int s) {
            int arc = arcOf[s];
            return arc == NONE ? NONE : home[net.from[arc]];
        }

        private int nodesOfRing(int start) {
            int nodes = 0;
            int s = start;
            for (int step = 0; step < MOST_SETS && s != NONE; step++) {
                nodes |= members[s];
                s = setBefore(s);
                if (s == start) {
                    break;
                }
            }
            return nodes;
        }

        private int addSet(int nodes) {
            if (count >= MOST_SETS) {
                return NONE;
            }
            int s = count;
            takeInParts(nodes, s);
            members[s] = nodes;
            outer[s] = NONE;
            walkOf[s] = NONE;
            chooseArc(s);
            addDualToNodes(s);
            count++;
            return s;
        }

        private void takeInParts(int nodes, int around) {
            for (int s = 0; s < count; s++) {
                if (outer[s] == NONE && (members[s] & nodes) != 0) {
                    outer[s] = around;
                }
            }
        }

        /** No two arcs have the same rest: they would make two trees with one sum of powers. */
        private void chooseArc(int s) {
            int best = NONE;
            long bestWeight = 0;
            long bestPower = 0;
            for (int arc = 0; arc < net.arcCount; arc++) {
                if (!net.isOpen[arc] || !net.enters(arc, members[s])) {
                    continue;
                }
                int end = net.to[arc];
                long restWeight = net.weight[arc] - heldWeight[end];
                long restPower = (1L << arc) - heldPower[end];
                boolean isLess = restWeight < bestWeight
                        || restWeight == bestWeight && restPower < bestPower;
                if (best == NONE || isLess) {
                    best = arc;
                    bestWeight = restWeight;
                    bestPower = restPower;
                }
            }
            arcOf[s] = best;
            dualWeight[s] = bestWeight;
            dualPower[s] = bestPower;
        }

        private void addDualToNodes(int s) {
            for (int node = 0; node < net.nodeCount; node++) {
                if (holds(members[s], node)) {
                    home[node] = s;
                    heldWeight[node] += dualWeight[s];
                    heldPower[node] += dualPower[s];
                }
            }
        }

        private void numberSets() {
            for (int s = 0; s < count; s++) {
                int number = 0;
                for (int other = 0; other < count; other++) {
                    if (comesFirst(members[other], members[s])) {
                        number++;
                    }
                }
                numberOf[s] = number;
                byNumber[number] = s;
            }
        }

        private static boolean comesFirst(int nodes, int others) {
            int size = Integer.bitCount(nodes);
            int otherSize = Integer.bitCount(others);
            if (size != otherSize) {
                return size < otherSize;
            }
            return lowestBit(nodes) < lowestBit(others);
        }

        private static int lowestBit(int nodes) {
            return nodes & -nodes;
        }
    }

    /** The arcs of the tree that a grown nest tells. */
    private static final class Tree {
        final int[] arcInto = new int[MOST_NODES];

        private final Net net;
        private final Nest nest;

        Tree(Net net, Nest nest) {
            this.net = net;
            this.nest = nest;
        }

        /**
         * Goes from the set made last to the first, so that a set comes before its parts: a node
         * that has its arc by then got it from a set around, which is entered through this one.
         */
        void unfold() {
            Arrays.fill(arcInto, NONE);
            int entered = 0;
            for (int s = nest.count - 1; s >= 0; s--) {
                int arc = nest.arcOf[s];
                if (arc != NONE && (nest.members[s] & entered) == 0) {
                    int node = net.to[arc];
                    arcInto[node] = arc;
                    entered |= 1 << node;
                }
            }
        }

        boolean hasArc(int arc) {
            return arcInto[net.to[arc]] == arc;
        }

        long sumOfWeights() {
            long sum = 0;
            for (int node = 0; node < net.nodeCount; node++) {
                int arc = arcInto[node];
                if (arc != NONE) {
                    sum += net.weight[arc];
                }
            }
            return sum;
        }

        int arcsOnWayTo(int node) {
            int count = 0;
            int arc = arcInto[node];
            while (arc != NONE && count < MOST_NODES) {
                count++;
                arc = arcInto[net.from[arc]];
            }
            return count;
        }

        long weightOfWayTo(int node) {
            long sum = 0;
            int arc = arcInto[node];
            for (int step = 0; step < MOST_NODES && arc != NONE; step++) {
                sum += net.weight[arc];
                arc = arcInto[net.from[arc]];
            }
            return sum;
        }
    }
}
