import java.math.BigInteger;
import java.util.ArrayList;
import java.util.Comparator;
import java.util.List;
import java.util.Set;
import java.util.TreeSet;

/**
 * The document's words taken literally, with numbers without end and no care for speed: what the
 * class answers is compared with what this answers. It joins rings in another order and unfolds
 * the tree in another way than the class does.
 */
final class Model {
    private static final long MOST_WEIGHT = 1099511627776L;

    static final class Arc {
        final int from;
        final int to;
        long weight;
        boolean isOpen = true;

        Arc(int from, int to, long weight) {
            this.from = from;
            this.to = to;
            this.weight = weight;
        }
    }

    static final class NodeSet {
        final Set<Integer> nodes = new TreeSet<>();
        final List<NodeSet> parts = new ArrayList<>();
        boolean isLive = true;
        int arc = -1;
        BigInteger dualWeight = BigInteger.ZERO;
        BigInteger dualPower = BigInteger.ZERO;

        boolean isEnteredBy(Arc arc) {
            return nodes.contains(arc.to) && !nodes.contains(arc.from);
        }

        boolean isPartOf(NodeSet other) {
            return other != this && other.nodes.containsAll(nodes);
        }
    }

    final List<Arc> arcs = new ArrayList<>();
    private final List<NodeSet> sets = new ArrayList<>();
    private int[] treeArcs = {-1};
    private int nodeCount = 1;
    private int root = 0;
    private boolean isSolved = false;
    private boolean hasTree = false;

    void nodes(int n, int root) {
        if (n < 1 || n > 24 || root < 0 || root >= n) {
            throw new IllegalArgumentException();
        }
        nodeCount = n;
        this.root = root;
        arcs.clear();
        forget();
    }

    int arc(int from, int to, long weight) {
        needNode(from);
        needNode(to);
        if (from == to) {
            throw new IllegalArgumentException();
        }
        needWeight(weight);
        if (arcs.size() == 60) {
            return -1;
        }
        forget();
        arcs.add(new Arc(from, to, weight));
        return arcs.size() - 1;
    }

    long weigh(int arc, long weight) {
        needArc(arc);
        needWeight(weight);
        forget();
        long before = arcs.get(arc).weight;
        arcs.get(arc).weight = weight;
        return before;
    }

    boolean open(int arc, boolean is) {
        needArc(arc);
        forget();
        boolean before = arcs.get(arc).isOpen;
        arcs.get(arc).isOpen = is;
        return before;
    }

    int solve() {
        forget();
        isSolved = true;
        int unreached = nodeCount - reached().size();
        if (unreached == 0) {
            hasTree = true;
            findSets();
            findTree();
        }
        return unreached;
    }

    long cost() {
        if (!hasTree) {
            return -1;
        }
        long sum = 0;
        for (int arc : treeArcs) {
            sum += arc < 0 ? 0 : arcs.get(arc).weight;
        }
        return sum;
    }

    int into(int node) {
        needNode(node);
        return hasTree ? treeArcs[node] : -1;
    }

    boolean isReached(int node) {
        needNode(node);
        return reached().contains(node);
    }

    int sets() {
        return sets.size();
    }

    int set(int k, int what) {
        needSet(k);
        NodeSet set = sets.get(k);
        if (what == 0) {
            return set.nodes.size();
        } else if (what == 1) {
            return set.arc;
        } else if (what == 2) {
            return set.isLive ? 1 : 0;
        } else if (what == 3) {
            return numberOfLeastAround(set);
        }
        throw new IndexOutOfBoundsException();
    }

    boolean isIn(int k, int node) {
        needSet(k);
        needNode(node);
        return sets.get(k).nodes.contains(node);
    }

    long dual(int k) {
        needSet(k);
        return sets.get(k).dualWeight.longValueExact();
    }

    long slack(int arc) {
        needArc(arc);
        if (!hasTree) {
            throw new IllegalStateException();
        }
        BigInteger slack = BigInteger.valueOf(arcs.get(arc).weight);
        for (NodeSet set : sets) {
            if (set.isEnteredBy(arcs.get(arc))) {
                slack = slack.subtract(set.dualWeight);
            }
        }
        return slack.longValueExact();
    }

    int about(int what) {
        if (what == 0) {
            return nodeCount;
        } else if (what == 1) {
            return arcs.size();
        } else if (what == 2) {
            return (int) arcs.stream().filter(arc -> arc.isOpen).count();
        } else if (what == 3) {
            return root;
        } else if (what == 4) {
            return isSolved ? 1 : 0;
        }
        throw new IndexOutOfBoundsException();
    }

    int told(int arc, int what) {
        needArc(arc);
        Arc it = arcs.get(arc);
        if (what == 0) {
            return it.from;
        } else if (what == 1) {
            return it.to;
        } else if (what == 2) {
            return it.isOpen ? 1 : 0;
        } else if (what == 3) {
            return hasTree && treeArcs[it.to] == arc ? 1 : 0;
        }
        throw new IndexOutOfBoundsException();
    }

    int depth(int node) {
        needNode(node);
        return hasTree ? wayTo(node).size() : -1;
    }

    long far(int node) {
        needNode(node);
        return hasTree ? wayTo(node).stream().mapToLong(arc -> arc.weight).sum() : -1;
    }

    private List<Arc> wayTo(int node) {
        if (node == root) {
            return new ArrayList<>();
        }
        Arc last = arcs.get(treeArcs[node]);
        List<Arc> way = wayTo(last.from);
        way.add(last);
        return way;
    }

    private void forget() {
        isSolved = false;
        hasTree = false;
        sets.clear();
    }

    private void needNode(int node) {
        if (node < 0 || node >= nodeCount) {
            throw new IndexOutOfBoundsException();
        }
    }

    private void needArc(int arc) {
        if (arc < 0 || arc >= arcs.size()) {
            throw new IndexOutOfBoundsException();
        }
    }

    private void needSet(int k) {
        if (k < 0 || k >= sets.size()) {
            throw new IndexOutOfBoundsException();
        }
    }

    private static void needWeight(long weight) {
        if (weight < 0 || weight > MOST_WEIGHT) {
            throw new IllegalArgumentException();
        }
    }

    private Set<Integer> reached() {
        Set<Integer> reached = new TreeSet<>();
        comeTo(root, reached);
        return reached;
    }

    private void comeTo(int node, Set<Integer> reached) {
        if (reached.add(node)) {
            for (Arc arc : arcs) {
                if (arc.isOpen && arc.from == node) {
                    comeTo(arc.to, reached);
                }
            }
        }
    }

    private void findSets() {
        for (int node = 0; node < nodeCount; node++) {
            if (node != root) {
                NodeSet single = new NodeSet();
                single.nodes.add(node);
                chooseArc(single);
                sets.add(single);
            }
        }
        List<NodeSet> ring = someRing();
        while (!ring.isEmpty()) {
            NodeSet joined = new NodeSet();
            for (NodeSet part : ring) {
                joined.nodes.addAll(part.nodes);
                joined.parts.add(part);
                part.isLive = false;
            }
            chooseArc(joined);
            sets.add(joined);
            ring = someRing();
        }
        sets.sort(Comparator.comparing((NodeSet set) -> set.nodes.size())
                .thenComparing(set -> set.nodes.iterator().next()));
    }

    private void chooseArc(NodeSet set) {
        for (int i = 0; i < arcs.size(); i++) {
            Arc arc = arcs.get(i);
            if (!arc.isOpen || !set.isEnteredBy(arc)) {
                continue;
            }
            BigInteger weight = BigInteger.valueOf(arc.weight);
            BigInteger power = BigInteger.TWO.pow(i);
            for (NodeSet part : sets) {
                if (part.isPartOf(set) && part.nodes.contains(arc.to)) {
                    weight = weight.subtract(part.dualWeight);
                    power = power.subtract(part.dualPower);
                }
            }
            int byWeight = weight.compareTo(set.dualWeight);
            int byPower = power.compareTo(set.dualPower);
            if (set.arc < 0 || byWeight < 0 || byWeight == 0 && byPower < 0) {
                set.arc = i;
                set.dualWeight = weight;
                set.dualPower = power;
            } else if (byWeight == 0 && byPower == 0) {
                throw new AssertionError("two arcs have the same rest");
            }
        }
    }

    /** The ring of the live set made last that lies in one; the class goes from the first node on. */
    private List<NodeSet> someRing() {
        for (int i = sets.size() - 1; i >= 0; i--) {
            List<NodeSet> way = new ArrayList<>();
            NodeSet at = sets.get(i);
            while (at != null && at.isLive && !way.contains(at)) {
                way.add(at);
                at = liveSetWith(arcs.get(at.arc).from);
            }
            if (at == sets.get(i) && at.isLive) {
                return way;
            }
        }
        return new ArrayList<>();
    }

    private NodeSet liveSetWith(int node) {
        for (NodeSet set : sets) {
            if (set.isLive && set.nodes.contains(node)) {
                return set;
            }
        }
        return null;
    }

    private int numberOfLeastAround(NodeSet set) {
        int least = -1;
        for (int k = 0; k < sets.size(); k++) {
            NodeSet around = sets.get(k);
            boolean isLess = least < 0 || around.nodes.size() < sets.get(least).nodes.size();
            if (set.isPartOf(around) && isLess) {
                least = k;
            }
        }
        return least;
    }

    private void findTree() {
        treeArcs = new int[nodeCount];
        treeArcs[root] = -1;
        for (NodeSet set : sets) {
            if (set.isLive) {
                takeArc(set);
            }
        }
    }

    private void takeArc(NodeSet set) {
        int end = arcs.get(set.arc).to;
        treeArcs[end] = set.arc;
        takeArcsWithin(set, end);
    }

    private void takeArcsWithin(NodeSet set, int entered) {
        for (NodeSet part : set.parts) {
            if (part.nodes.contains(entered)) {
                takeArcsWithin(part, entered);
            } else {
                takeArc(part);
            }
        }
    }
}
