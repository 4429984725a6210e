/**
 * Objects to begin a test with, one for each kind of state that the document tells apart. What a
 * start has is written out here and not asked of the object, so that the bounds are the document's.
 */
enum Start {
    NEW(1, 0, 0, 0),
    ROOT_ALONE_SOLVED(1, 0, 0, 0),
    NO_ARCS(24, 23, 0, 0),
    NO_ARCS_SOLVED(24, 23, 0, 0),
    NOT_SOLVED(4, 0, 6, 0),
    SOLVED(4, 0, 6, 4),
    NO_TREE(3, 1, 2, 0),
    CHANGED_AFTER_SOLVE(4, 0, 6, 0),
    FULL_NOT_SOLVED(24, 0, 60, 0),
    FULL(24, 0, 60, 45),
    SMALL_AFTER_FULL(3, 2, 2, 2);

    static final long MOST_WEIGHT = 1099511627776L;

    final int nodes;
    final int root;
    final int arcs;
    final int sets;

    Start(int nodes, int root, int arcs, int sets) {
        this.nodes = nodes;
        this.root = root;
        this.arcs = arcs;
        this.sets = sets;
    }

    boolean isSolved() {
        return hasTree() || this == NO_TREE || this == NO_ARCS_SOLVED;
    }

    boolean hasTree() {
        return sets > 0 || this == ROOT_ALONE_SOLVED;
    }

    /** Takes at most 130 calls. */
    TreeOfArcs make() {
        TreeOfArcs x = new TreeOfArcs();
        switch (this) {
            case NEW:
                break;
            case NO_ARCS:
            case NO_ARCS_SOLVED:
                x.nodes(24, 23);
                break;
            case NOT_SOLVED:
            case SOLVED:
            case CHANGED_AFTER_SOLVE:
                makeRingOfThree(x);
                break;
            case NO_TREE:
                makeTwoAside(x);
                break;
            case FULL_NOT_SOLVED:
            case FULL:
                makeDeepestNest(x);
                break;
            case SMALL_AFTER_FULL:
                makeDeepestNest(x);
                x.solve();
                makeSmall(x);
                break;
            default:
                break;
        }
        if (isSolved() || this == CHANGED_AFTER_SOLVE) {
            x.solve();
        }
        if (this == CHANGED_AFTER_SOLVE) {
            x.weigh(0, 11);
        }
        return x;
    }

    /** The ring 1 2 3 (arcs 1, 2, 3), arcs 0 and 4 into it from the root, and the shut arc 5. */
    private static void makeRingOfThree(TreeOfArcs x) {
        x.nodes(4, 0);
        x.arc(0, 1, 10);
        x.arc(1, 2, 1);
        x.arc(2, 3, 1);
        x.arc(3, 1, 1);
        x.arc(0, 3, 8);
        x.arc(0, 2, 2);
        x.open(5, false);
    }

    /** From the root 1 there is no way to 0 and 2. */
    private static void makeTwoAside(TreeOfArcs x) {
        x.nodes(3, 1);
        x.arc(0, 2, 1);
        x.arc(2, 0, 1);
    }

    private static void makeSmall(TreeOfArcs x) {
        x.nodes(3, 2);
        x.arc(2, 0, 5);
        x.arc(0, 1, 6);
    }

    /**
     * As many sets as there can be, and as many arcs: 1 2 is a ring, and each further node makes
     * one with all before it. The first 15 arcs, into the root, only take up numbers.
     */
    static void makeDeepestNest(TreeOfArcs x) {
        x.nodes(24, 0);
        for (int arc = 0; arc < 15; arc++) {
            x.arc(1 + arc, 0, 0);
        }
        x.arc(2, 1, 1);
        x.arc(1, 2, 1);
        for (int node = 3; node < 24; node++) {
            x.arc(node - 1, node, 0);
            x.arc(node, 1, node);
        }
        x.arc(0, 23, MOST_WEIGHT);
    }
}
