/**
 * Each sentence of the document that names an edge, quoted, with what holds on it and beyond it.
 * That refused calls change nothing is looked at in RefusalsTest.
 */
public final class EdgesTest {
    private static final int NONE = TreeOfArcs.NONE;
    private static final long MOST_WEIGHT = Start.MOST_WEIGHT;

    private static final Check CHECK = new Check("EdgesTest");

    public static void main(String[] args) {
        terms();
        changes();
        solving();
        asking();
        CHECK.end();
    }

    private static void terms() {
        atMost512Calls();
        oneToTwentyFourNodes();
        atMostSixtyArcs();
        weightsUpToTwoToTheForty();
        openAtFirst();
        severalGoTheSameWay();
        openArcsAlone();
        oneArcIntoEachNodeButTheRoot();
        leastSumOfPowers();
        powersBelowZero();
        powersOfRingsWithinRings();
        powersOfTheSolveBefore();
        noSetWithTheRoot();
        leastAndGreatestRing();
        deepestNest();
        deepestNestBeforeOtherNodes();
        nestOfNests();
        numberedBySizeThenLeastNode();
        firstPartOfDuals();
        noTreeNoSets();
        theOneNamedFirst();
    }

    private static void changes() {
        newObject();
        nodesMakesAllNew();
        arcWithoutRoom();
        whatWasSolvedIsNoMore();
        weighAnswersWhatItWas();
        openAnswersWhetherItWas();
    }

    private static void solving() {
        solveAnswersHowMany();
        solveTwice();
        costAtItsEnds();
        intoAtItsEnds();
        reachedSolvedOrNot();
        longestWayInWorstOrder();
    }

    private static void asking() {
        setsWithoutTree();
        fewerSetsThanBefore();
        setAtItsEnds();
        slackAtItsEnds();
        aboutAtItsEnds();
        toldAtItsEnds();
        depthAndFarAtTheirEnds();
    }

    // ---- nets

    private static TreeOfArcs withNodes(int n, int root) {
        TreeOfArcs x = new TreeOfArcs();
        x.nodes(n, root);
        return x;
    }

    /** Takes up the numbers of arcs, by arcs that no tree can have. */
    private static void arcsIntoRoot(TreeOfArcs x, int many) {
        for (int i = 0; i < many; i++) {
            x.arc(x.about(3) == 0 ? 1 : 0, x.about(3), 0);
        }
    }

    /** From 0 to 1 to 2 and so on to 23; the root is 0. */
    private static TreeOfArcs longestWay(long weight) {
        TreeOfArcs x = withNodes(24, 0);
        for (int node = 1; node < 24; node++) {
            x.arc(node - 1, node, weight);
        }
        return x;
    }

    private static TreeOfArcs solved(TreeOfArcs x) {
        x.solve();
        return x;
    }

    // ---- What it is, The public face, Terms

    /** "An object is used for at most 512 calls". */
    private static void atMost512Calls() {
        TreeOfArcs x = withNodes(2, 0);
        x.arc(0, 1, 5);
        for (int call = 3; call < 512; call += 3) {
            CHECK.same("call " + call + ": weigh", x.weigh(0, call), call == 3 ? 5 : call - 3);
            CHECK.same("call " + (call + 1) + ": solve", x.solve(), 0);
            CHECK.same("call " + (call + 2) + ": cost", x.cost(), call);
        }
    }

    /** "NODES are numbered from 0 on, 1 .. 24 of them, one is the ROOT." */
    private static void oneToTwentyFourNodes() {
        for (int n = 1; n <= 24; n++) {
            for (int root : new int[] {0, n - 1}) {
                TreeOfArcs x = withNodes(n, root);
                String of = "2: nodes(" + n + ", " + root + "): ";
                CHECK.same(of + "how many", x.about(0), n);
                CHECK.same(of + "root", x.about(3), root);
                CHECK.same(of + "node 0", x.into(0), NONE);
                CHECK.same(of + "the last node", x.into(n - 1), NONE);
                CHECK.outOfBounds(of + "beyond the last node", () -> x.into(x.about(0)));
                CHECK.outOfBounds(of + "before node 0", () -> x.into(-1));
            }
        }
        TreeOfArcs x = withNodes(24, 11);
        CHECK.badArgument("2: no nodes", () -> callNodes(x, 0, 0));
        CHECK.badArgument("2: 25 nodes", () -> callNodes(x, 25, 0));
        CHECK.badArgument("2: the root before node 0", () -> callNodes(x, 24, -1));
        CHECK.badArgument("2: the root beyond 24", () -> callNodes(x, 24, 24));
        CHECK.badArgument("2: the root beyond 1", () -> callNodes(x, 1, 1));
        CHECK.same("2: nodes after those", x.about(0), 24);
        CHECK.same("2: root after those", x.about(3), 11);
    }

    private static long callNodes(TreeOfArcs x, int n, int root) {
        x.nodes(n, root);
        return 0;
    }

    /** "ARCS, numbered from 0 on, at most 60". */
    private static void atMostSixtyArcs() {
        TreeOfArcs x = withNodes(24, 0);
        CHECK.outOfBounds("3: arc 0 when there is none", () -> x.told(0, 0));
        for (int arc = 0; arc < 60; arc++) {
            int from = arc % 24;
            int to = (from + 1 + arc / 24) % 24;
            int next = arc + 1;
            CHECK.same("3: arc " + arc, x.arc(from, to, arc), arc);
            CHECK.same("3: from where, of arc " + arc, x.told(arc, 0), from);
            CHECK.same("3: to where, of arc " + arc, x.told(arc, 1), to);
            CHECK.outOfBounds("3: beyond arc " + arc, () -> x.told(next, 0));
        }
        CHECK.same("3: the arc behind the 60th", x.arc(0, 1, 1), NONE);
        CHECK.same("3: arcs then", x.about(1), 60);
        CHECK.same("4: weight of arc 59", x.weigh(59, 1), 59);
        CHECK.same("5: arc 59 was open", x.open(59, false), true);
        CHECK.outOfBounds("4: weight of arc 60", () -> x.weigh(60, 1));
        CHECK.outOfBounds("5: opening of arc 60", () -> x.open(60, true) ? 1 : 0);
        CHECK.outOfBounds("14: slack of arc 60", () -> x.slack(60));
        CHECK.outOfBounds("16: told of arc 60", () -> x.told(60, 2));
    }

    /** "have a WEIGHT 0 .. 2^40". */
    private static void weightsUpToTwoToTheForty() {
        TreeOfArcs x = withNodes(2, 0);
        long[] taken = {0, 1, (1L << 31) - 1, 1L << 31, 1L << 32, MOST_WEIGHT - 1, MOST_WEIGHT};
        for (int arc = 0; arc < taken.length; arc++) {
            CHECK.same("3: an arc with weight " + taken[arc], x.arc(0, 1, taken[arc]), arc);
            CHECK.same("4: its weight", x.weigh(arc, MOST_WEIGHT), taken[arc]);
            CHECK.same("4: its weight then", x.weigh(arc, taken[arc]), MOST_WEIGHT);
            CHECK.same("4: and then", x.weigh(arc, 0), taken[arc]);
        }
        long[] refused = {-1, MOST_WEIGHT + 1, Long.MIN_VALUE, Long.MAX_VALUE, -(1L << 32)};
        for (long weight : refused) {
            CHECK.badArgument("3: an arc with weight " + weight, () -> x.arc(0, 1, weight));
            CHECK.badArgument("4: weigh(0, " + weight + ")", () -> x.weigh(0, weight));
        }
        CHECK.same("3: arcs after those", x.about(1), taken.length);
        CHECK.same("4: the weight after those", x.weigh(0, 1), 0);
    }

    /** "and are OPEN (at first) or shut", also when an arc of that number was shut before. */
    private static void openAtFirst() {
        TreeOfArcs x = withNodes(2, 0);
        x.arc(0, 1, 1);
        CHECK.same("3: open at first", x.told(0, 2), 1);
        x.open(0, false);
        CHECK.same("5: shut", x.told(0, 2), 0);
        x.nodes(2, 0);
        x.arc(0, 1, 1);
        CHECK.same("3: open at first after nodes", x.told(0, 2), 1);
        CHECK.same("5: it was open", x.open(0, true), true);
    }

    /** "several may go the same way": all 60 of them. */
    private static void severalGoTheSameWay() {
        TreeOfArcs x = withNodes(2, 1);
        for (int arc = 0; arc < 60; arc++) {
            CHECK.same("3: arc " + arc + " of one way", x.arc(1, 0, 7), arc);
        }
        for (int arc = 0; arc < 59; arc++) {
            x.solve();
            CHECK.same("8: the first of those that are open", x.into(0), arc);
            x.open(arc, false);
        }
        CHECK.same("6: solve with the last one", x.solve(), 0);
        CHECK.same("8: the last one", x.into(0), 59);
        x.open(59, false);
        CHECK.same("6: solve when all are shut", x.solve(), 1);
    }

    /** "What follows is told of OPEN ARCS alone." */
    private static void openArcsAlone() {
        TreeOfArcs x = withNodes(3, 0);
        x.arc(0, 1, 0);
        x.arc(0, 1, 9);
        x.arc(1, 2, 0);
        x.arc(2, 1, 0);
        x.open(0, false);
        x.open(3, false);
        x.solve();
        CHECK.same("7: the cost without the shut arcs", x.cost(), 9);
        CHECK.same("8: not by the shut arc", x.into(1), 1);
        CHECK.same("10: no ring of a shut arc", x.sets(), 2);
        CHECK.same("11: the set's arc is an open one", x.set(0, 1), 1);
        CHECK.same("13: the dual is of an open arc", x.dual(0), 9);
        CHECK.same("16: the tree has no shut arc", x.told(0, 3), 0);
        x.open(1, false);
        CHECK.same("9: not reached by shut arcs", x.isReached(1), false);
        CHECK.same("6: not come to by shut arcs", x.solve(), 2);
    }

    /** "A TREE has for each NODE but the ROOT one ARC into it". */
    private static void oneArcIntoEachNodeButTheRoot() {
        TreeOfArcs x = withNodes(24, 13);
        for (int node = 0; node < 24; node++) {
            if (node != 13) {
                x.arc(13, node, 3);
                x.arc(node, 13, 0);
            }
        }
        x.solve();
        int inTree = 0;
        for (int arc = 0; arc < 46; arc++) {
            inTree += x.told(arc, 3);
        }
        CHECK.same("16: arcs of the tree", inTree, 23);
        CHECK.same("16: not the first arc into the root", x.told(1, 3), 0);
        CHECK.same("16: not the last arc into the root", x.told(45, 3), 0);
        CHECK.same("8: none into the root", x.into(13), NONE);
        CHECK.same("7: the cost", x.cost(), 69);
        TreeOfArcs alone = solved(new TreeOfArcs());
        CHECK.same("7: a tree without arcs", alone.cost(), 0);
        CHECK.same("8: none into the root alone", alone.into(0), NONE);
    }

    /** "Of TREES of the least COST THE TREE is the one for which the sum of 2^i .. is least." */
    private static void leastSumOfPowers() {
        TreeOfArcs x = withNodes(3, 0);
        x.arc(0, 1, MOST_WEIGHT);
        arcsIntoRoot(x, 56);
        x.arc(0, 2, MOST_WEIGHT);
        x.arc(2, 1, 0);
        x.arc(1, 2, 0);
        x.solve();
        CHECK.same("8: of arcs 0 59 and 57 58, into 1", x.into(1), 58);
        CHECK.same("8: of arcs 0 59 and 57 58, into 2", x.into(2), 57);
        x.weigh(0, 0);
        x.weigh(57, 0);
        x.solve();
        CHECK.same("8: of arcs 0 59, 57 58 and 0 57, into 1", x.into(1), 0);
        CHECK.same("8: of arcs 0 59, 57 58 and 0 57, into 2", x.into(2), 57);
        TreeOfArcs y = withNodes(2, 0);
        y.arc(0, 1, MOST_WEIGHT);
        arcsIntoRoot(y, 58);
        y.arc(0, 1, MOST_WEIGHT - 1);
        CHECK.same("8: the cost comes first", solved(y).into(1), 59);
        y.weigh(59, MOST_WEIGHT);
        CHECK.same("8: then the powers", solved(y).into(1), 0);
    }

    /** "subtracted each by itself (numbers without end)": second parts below 0 are less, too. */
    private static void powersBelowZero() {
        for (int many : new int[] {0, 2, 56}) {
            TreeOfArcs x = withNodes(3, 0);
            x.arc(0, 1, 7);
            x.arc(0, 2, 7);
            arcsIntoRoot(x, many);
            x.arc(1, 2, 3);
            x.arc(2, 1, 3);
            x.solve();
            CHECK.same("11: the arc of the ring, " + many, x.set(2, 1), 0);
            CHECK.same("8: into 1, " + many, x.into(1), 0);
            CHECK.same("8: into 2, " + many, x.into(2), many + 2);
            CHECK.same("13: the dual of the ring, " + many, x.dual(2), 4);
        }
    }

    /** "less the DUALS of all SETS that are parts of S": of all of them, where powers decide. */
    private static void powersOfRingsWithinRings() {
        TreeOfArcs x = withNodes(4, 0);
        x.arc(1, 2, 0);
        x.arc(2, 3, 0);
        x.arc(3, 1, 1);
        arcsIntoRoot(x, 54);
        x.arc(0, 1, 8);
        x.arc(0, 3, 7);
        x.arc(2, 1, 0);
        x.solve();
        CHECK.same("10: a ring within a ring", x.sets(), 5);
        CHECK.same("11: the arc of the inner ring", x.set(3, 1), 2);
        CHECK.same("11: the arc of the outer ring", x.set(4, 1), 57);
        CHECK.same("8: into 1, of 0 1 57 and 0 2 58", x.into(1), 57);
        CHECK.same("8: into 3, of 0 1 57 and 0 2 58", x.into(3), 1);
        CHECK.same("13: the dual of the outer ring", x.dual(4), 7);
    }

    /** "at first each NODE but the ROOT is one by itself": nothing is left of a solve before. */
    private static void powersOfTheSolveBefore() {
        TreeOfArcs x = withNodes(3, 0);
        x.arc(0, 1, 7);
        x.arc(0, 2, 7);
        x.arc(1, 2, 3);
        x.arc(2, 1, 3);
        arcsIntoRoot(x, 55);
        x.arc(0, 2, 0);
        x.solve();
        CHECK.same("8: the arc 59 by its weight", x.into(2), 59);
        x.open(59, false);
        x.solve();
        CHECK.same("8: of arcs 0 2 and 1 3, into 1", x.into(1), 0);
        CHECK.same("8: of arcs 0 2 and 1 3, into 2", x.into(2), 2);
        CHECK.same("13: the dual of the ring", x.dual(2), 4);
    }

    /** "SETS of NODES, none of them with the ROOT in it: at first each NODE but the ROOT". */
    private static void noSetWithTheRoot() {
        for (int root : new int[] {0, 11, 23}) {
            TreeOfArcs x = withNodes(24, root);
            for (int step = 1; step < 24; step++) {
                x.arc((root + step - 1) % 24, (root + step) % 24, step);
            }
            x.arc((root + 23) % 24, root, 0);
            x.solve();
            CHECK.same("10: as many sets as nodes but the root", x.sets(), 23);
            for (int k = 0; k < 23; k++) {
                int node = k < root ? k : k + 1;
                CHECK.same("12: the root in set " + k, x.isIn(k, root), false);
                CHECK.same("12: " + node + " in set " + k, x.isIn(k, node), true);
                CHECK.same("11: set " + k + " is live", x.set(k, 2), 1);
                CHECK.same("11: around set " + k, x.set(k, 3), NONE);
                CHECK.same("13: dual of set " + k, x.dual(k), Math.floorMod(node - root, 24));
            }
            CHECK.outOfBounds("13: set 23", () -> x.dual(23));
        }
        CHECK.same("10: no set of the root alone", solved(new TreeOfArcs()).sets(), 0);
        TreeOfArcs two = withNodes(2, 1);
        two.arc(1, 0, 4);
        CHECK.same("10: one set of two nodes", solved(two).sets(), 1);
        CHECK.same("12: the node in it", two.isIn(0, 0), true);
        CHECK.same("12: the root in it", two.isIn(0, 1), false);
    }

    /** "If LIVE SETS lie in a ring": one of two, one of all nodes but the root. */
    private static void leastAndGreatestRing() {
        for (int size = 2; size <= 23; size++) {
            TreeOfArcs x = withNodes(size + 1, 0);
            for (int node = 1; node <= size; node++) {
                x.arc(node, node % size + 1, 2);
            }
            x.arc(0, size, MOST_WEIGHT);
            x.solve();
            String of = "ring of " + size + ": ";
            CHECK.same("10: " + of + "sets", x.sets(), size + 1);
            CHECK.same("11: " + of + "nodes", x.set(size, 0), size);
            CHECK.same("11: " + of + "arc", x.set(size, 1), size);
            CHECK.same("11: " + of + "live", x.set(size, 2), 1);
            CHECK.same("11: " + of + "a part is live", x.set(size - 1, 2), 0);
            CHECK.same("11: " + of + "around a part", x.set(0, 3), size);
            CHECK.same("13: " + of + "dual", x.dual(size), MOST_WEIGHT - 2);
            CHECK.same("7: " + of + "cost", x.cost(), MOST_WEIGHT + 2L * (size - 1));
            CHECK.same("8: " + of + "into the node come to first", x.into(size), size);
            CHECK.same("17: " + of + "the last node", x.depth(size - 1), size);
        }
    }

    /** "This goes on till there is no such ring": 45 sets, as many as there can be. */
    private static void deepestNest() {
        TreeOfArcs x = Start.FULL.make();
        CHECK.same("10: sets of the deepest nest", x.sets(), 45);
        CHECK.same("7: its cost", x.cost(), MOST_WEIGHT + 24);
        for (int k = 0; k < 45; k++) {
            String of = " of set " + k;
            boolean isNode = k < 23;
            int last = isNode ? k + 1 : k - 21;
            CHECK.same("11: nodes" + of, x.set(k, 0), isNode ? 1 : last);
            CHECK.same("12: its greatest node" + of, x.isIn(k, last), true);
            CHECK.same("12: node 1" + of, x.isIn(k, 1), !isNode || last == 1);
            CHECK.same("11: live" + of, x.set(k, 2), k == 44 ? 1 : 0);
            CHECK.same("13: dual" + of, x.dual(k), dualInDeepestNest(k));
            CHECK.same("11: around" + of, x.set(k, 3), aroundInDeepestNest(k));
        }
        CHECK.same("11: arc of the outermost", x.set(44, 1), 59);
        CHECK.same("11: arc of the one before it", x.set(43, 1), 58);
        CHECK.same("11: arc of the ring of two", x.set(23, 1), 18);
        CHECK.outOfBounds("11: set 45", () -> x.set(45, 0));
        CHECK.outOfBounds("12: set 45", () -> x.isIn(45, 1) ? 1 : 0);
        CHECK.outOfBounds("13: set 45", () -> x.dual(45));
        CHECK.same("17: the way goes by 23 and 1", x.depth(22), 23);
        CHECK.same("18: its weight", x.far(22), MOST_WEIGHT + 24);
    }

    private static long dualInDeepestNest(int k) {
        if (k < 23) {
            return k < 2 ? 1 : 0;
        }
        return k == 23 ? 2 : k == 44 ? MOST_WEIGHT : 1;
    }

    private static int aroundInDeepestNest(int k) {
        if (k < 23) {
            return Math.max(23, k + 22);
        }
        return k == 44 ? NONE : k + 1;
    }

    /** The same with its first nodes behind the nest, so that it is come to through them. */
    private static void deepestNestBeforeOtherNodes() {
        for (int behind = 0; behind <= 20; behind++) {
            TreeOfArcs x = withNodes(24, 0);
            for (int node = 1; node <= behind; node++) {
                x.arc(node + 1, node, 5);
            }
            int first = behind + 1;
            x.arc(first + 1, first, 1);
            x.arc(first, first + 1, 1);
            for (int node = first + 2; node < 24; node++) {
                x.arc(node - 1, node, 0);
                x.arc(node, first, node - behind);
            }
            x.arc(0, 23, MOST_WEIGHT);
            x.solve();
            int within = 23 - behind;
            String of = ", " + behind + " behind";
            CHECK.same("10: sets" + of, x.sets(), behind + 2 * within - 1);
            CHECK.same("11: nodes of the outermost" + of, x.set(x.sets() - 1, 0), within);
            CHECK.same("13: its dual" + of, x.dual(x.sets() - 1), MOST_WEIGHT);
            CHECK.same("7: cost" + of, x.cost(), MOST_WEIGHT + within + 1 + 5 * behind);
        }
    }

    /** Rings of two, rings of two rings, and so on: 16 nodes in 31 sets. */
    private static void nestOfNests() {
        TreeOfArcs x = withNodes(17, 16);
        for (int half = 1; half < 16; half *= 2) {
            for (int first = 0; first < 16; first += 2 * half) {
                x.arc(first, first + half, 10 * half);
                x.arc(first + half, first, 10 * half);
            }
        }
        x.arc(16, 5, 1000);
        x.solve();
        CHECK.same("10: sets of the nest of nests", x.sets(), 31);
        int[] first = {0, 16, 24, 28, 30};
        long[] duals = {10, 10, 20, 40, 990 - 10 - 20 - 40};
        for (int level = 0; level < 5; level++) {
            for (int i = 0; i < 16 >> level; i++) {
                int k = first[level] + i;
                CHECK.same("11: nodes of set " + k, x.set(k, 0), 1 << level);
                CHECK.same("12: least node of set " + k, x.isIn(k, i << level), true);
                CHECK.same("13: dual of set " + k, x.dual(k), duals[level]);
                CHECK.same("11: around set " + k, x.set(k, 3),
                        level == 4 ? NONE : first[level + 1] + i / 2);
            }
        }
        CHECK.same("7: the cost of the nest of nests", x.cost(), 1000 + 80 + 4 * 20 + 2 * 40 + 80);
    }

    /** "SETS are numbered by how many NODES are in them, of those with as many by the least". */
    private static void numberedBySizeThenLeastNode() {
        TreeOfArcs x = withNodes(23, 11);
        for (int step = 1; step <= 11; step++) {
            x.arc(11 + step, 11 - step, 0);
            x.arc(11 - step, 11 + step, 0);
            x.arc(11, 11 + step, step);
        }
        x.solve();
        CHECK.same("10: nodes and pairs", x.sets(), 33);
        for (int k = 0; k < 22; k++) {
            CHECK.same("11: set " + k + " is a node", x.set(k, 0), 1);
            CHECK.same("12: its node", x.isIn(k, k < 11 ? k : k + 1), true);
        }
        for (int least = 0; least < 11; least++) {
            int k = 22 + least;
            CHECK.same("11: set " + k + " is a pair", x.set(k, 0), 2);
            CHECK.same("12: its least node", x.isIn(k, least), true);
            CHECK.same("12: its other node", x.isIn(k, 22 - least), true);
            CHECK.same("13: its dual", x.dual(k), 11 - least);
            CHECK.same("11: around its least node", x.set(least, 3), k);
        }
    }

    /** "What is told of DUALS is their first part", though the second one chose the arcs. */
    private static void firstPartOfDuals() {
        TreeOfArcs x = withNodes(3, 0);
        x.arc(1, 2, 0);
        x.arc(2, 1, 0);
        x.arc(0, 1, 0);
        x.arc(0, 2, 0);
        x.solve();
        CHECK.same("10: the ring", x.sets(), 3);
        for (int k = 0; k < 3; k++) {
            CHECK.same("13: dual of set " + k, x.dual(k), 0);
        }
        CHECK.same("11: the arc of the ring", x.set(2, 1), 2);
        for (int arc = 0; arc < 4; arc++) {
            CHECK.same("14: slack of arc " + arc, x.slack(arc), 0);
        }
    }

    /** "If there are NODES to which one can't come .., there is no TREE, and there are no SETS." */
    private static void noTreeNoSets() {
        TreeOfArcs x = longestWay(1);
        x.solve();
        x.open(22, false);
        CHECK.same("6: one node that can't be come to", x.solve(), 1);
        CHECK.same("15: it was solved", x.about(4), 1);
        CHECK.same("7: no cost", x.cost(), NONE);
        CHECK.same("10: no sets", x.sets(), 0);
        CHECK.outOfBounds("11: no set 0", () -> x.set(0, 0));
        CHECK.outOfBounds("12: no set 0", () -> x.isIn(0, 1) ? 1 : 0);
        CHECK.outOfBounds("13: no set 0", () -> x.dual(0));
        CHECK.badState("14: no slack", () -> x.slack(0));
        CHECK.same("8: nothing into a node that is reached", x.into(1), NONE);
        CHECK.same("16: the tree has no arc", x.told(0, 3), 0);
        CHECK.same("17: no depth", x.depth(1), NONE);
        CHECK.same("18: nothing far", x.far(1), NONE);
        CHECK.same("9: yet it is reached", x.isReached(1), true);
        CHECK.same("9: and the last is not", x.isReached(23), false);
    }

    /** "the one named first when several would do". */
    private static void theOneNamedFirst() {
        TreeOfArcs x = withNodes(3, 0);
        x.arc(0, 1, 1);
        CHECK.outOfBounds("3: no node, both the same", () -> x.arc(3, 3, 1));
        CHECK.outOfBounds("3: no node, no weight", () -> x.arc(-1, 0, -1));
        CHECK.outOfBounds("3: no node, no weight", () -> x.arc(0, 3, MOST_WEIGHT + 1));
        CHECK.outOfBounds("3: all of it", () -> x.arc(-1, -1, -1));
        CHECK.badArgument("3: both the same, no weight", () -> x.arc(2, 2, -1));
        CHECK.outOfBounds("4: no arc, no weight", () -> x.weigh(1, -1));
        CHECK.outOfBounds("4: no arc, no weight", () -> x.weigh(-1, MOST_WEIGHT + 1));
        CHECK.outOfBounds("14: no arc, not solved", () -> x.slack(1));
        x.solve();
        CHECK.outOfBounds("14: no arc, no tree", () -> x.slack(-1));
        CHECK.badState("14: no tree", () -> x.slack(0));
    }

    // ---- Promises 1 to 5

    /** "One NODE, the ROOT; no ARCS; not solved." */
    private static void newObject() {
        TreeOfArcs x = new TreeOfArcs();
        CHECK.same("1: one node", x.about(0), 1);
        CHECK.same("1: no arcs", x.about(1), 0);
        CHECK.same("1: no open ones", x.about(2), 0);
        CHECK.same("1: the root", x.about(3), 0);
        CHECK.same("1: not solved", x.about(4), 0);
        CHECK.same("1: no cost", x.cost(), NONE);
        CHECK.same("1: no depth of the root", x.depth(0), NONE);
        CHECK.same("1: the root is not far", x.far(0), NONE);
        CHECK.same("1: the root is reached", x.isReached(0), true);
        CHECK.badArgument("1: an arc from the one node to itself", () -> x.arc(0, 0, 1));
        CHECK.outOfBounds("1: an arc to another one", () -> x.arc(0, 1, 1));
        CHECK.outOfBounds("1: slack of no arc", () -> x.slack(0));
        CHECK.same("1: solved", x.solve(), 0);
        CHECK.same("1: its cost", x.cost(), 0);
        CHECK.same("1: the depth of the root", x.depth(0), 0);
        CHECK.same("1: how far the root is", x.far(0), 0);
        CHECK.outOfBounds("1: slack of no arc, solved", () -> x.slack(0));
        CHECK.outOfBounds("1: no set, solved", () -> x.dual(0));
    }

    /** "So many NODES, with a ROOT; no ARCS." */
    private static void nodesMakesAllNew() {
        TreeOfArcs x = Start.FULL.make();
        x.open(0, false);
        x.solve();
        x.nodes(24, 0);
        CHECK.same("2: no arcs", x.about(1), 0);
        CHECK.same("2: no open arcs", x.about(2), 0);
        CHECK.same("2: not solved", x.about(4), 0);
        CHECK.same("2: no sets", x.sets(), 0);
        CHECK.same("2: no cost", x.cost(), NONE);
        CHECK.same("2: none reached", x.isReached(23), false);
        CHECK.outOfBounds("2: no arc 0", () -> x.told(0, 0));
        CHECK.outOfBounds("2: no arc 0 to weigh", () -> x.weigh(0, 1));
        CHECK.outOfBounds("2: no arc 0 to open", () -> x.open(0, true) ? 1 : 0);
        CHECK.outOfBounds("2: no arc 0 with a slack", () -> x.slack(0));
        x.nodes(2, 1);
        CHECK.outOfBounds("2: no node 2", () -> x.isReached(2) ? 1 : 0);
        CHECK.same("2: room for an arc", x.arc(1, 0, 4), 0);
        CHECK.same("2: solve of the new net", x.solve(), 0);
        CHECK.same("2: cost of the new net", x.cost(), 4);
        x.nodes(1, 0);
        CHECK.same("2: one node, and not solved", x.about(4), 0);
        CHECK.same("2: one node, and no cost", x.cost(), NONE);
    }

    /** "NONE when there are 60." What would throw with room throws without it. */
    private static void arcWithoutRoom() {
        TreeOfArcs x = Start.FULL.make();
        CHECK.same("3: no room", x.arc(0, 1, 0), NONE);
        CHECK.same("3: no room, the greatest weight", x.arc(23, 22, MOST_WEIGHT), NONE);
        CHECK.same("3: still solved", x.about(4), 1);
        CHECK.same("3: the same cost", x.cost(), MOST_WEIGHT + 24);
        CHECK.outOfBounds("3: no room, no node", () -> x.arc(24, 0, 0));
        CHECK.outOfBounds("3: no room, no node", () -> x.arc(0, -1, 0));
        CHECK.badArgument("3: no room, both the same", () -> x.arc(5, 5, 0));
        CHECK.badArgument("3: no room, no weight", () -> x.arc(0, 1, -1));
        CHECK.badArgument("3: no room, no weight", () -> x.arc(0, 1, MOST_WEIGHT + 1));
        x.open(59, false);
        CHECK.same("3: no room by a shut arc", x.arc(0, 1, 0), NONE);
        x.nodes(24, 0);
        CHECK.same("3: room by nodes", x.arc(0, 1, 0), 0);
    }

    /** "What was solved is no more", also by a change that leaves all as it was. */
    private static void whatWasSolvedIsNoMore() {
        noMore("3: a new arc", x -> x.arc(1, 0, MOST_WEIGHT));
        noMore("4: another weight", x -> x.weigh(0, 3));
        noMore("4: the same weight", x -> x.weigh(0, 10));
        noMore("5: shut", x -> x.open(0, false) ? 1 : 0);
        noMore("5: open as before", x -> x.open(0, true) ? 1 : 0);
        noMore("5: shut as before", x -> x.open(5, false) ? 1 : 0);
        noMore("2: nodes", x -> callNodes(x, 4, 0));
        TreeOfArcs y = Start.NO_TREE.make();
        y.weigh(0, 1);
        CHECK.same("4: nor that there is no tree", y.about(4), 0);
    }

    private static void noMore(String change, Sight.Ask ask) {
        TreeOfArcs x = Start.SOLVED.make();
        ask.of(x);
        CHECK.same(change + ": solved", x.about(4), 0);
        CHECK.same(change + ": cost", x.cost(), NONE);
        CHECK.same(change + ": sets", x.sets(), 0);
        CHECK.outOfBounds(change + ": set", () -> x.set(0, 0));
        CHECK.outOfBounds(change + ": is in", () -> x.isIn(0, 1) ? 1 : 0);
        CHECK.outOfBounds(change + ": dual", () -> x.dual(0));
        if (x.about(1) > 0) {
            CHECK.badState(change + ": slack", () -> x.slack(0));
            CHECK.same(change + ": arc of the tree", x.told(4, 3), 0);
        }
        for (int node = 0; node < 4; node++) {
            CHECK.same(change + ": into " + node, x.into(node), NONE);
            CHECK.same(change + ": depth of " + node, x.depth(node), NONE);
            CHECK.same(change + ": far of " + node, x.far(node), NONE);
        }
    }

    /** "Answers what it was." */
    private static void weighAnswersWhatItWas() {
        TreeOfArcs x = Start.FULL.make();
        CHECK.same("4: arc 59", x.weigh(59, 0), MOST_WEIGHT);
        CHECK.same("4: arc 59 again", x.weigh(59, 0), 0);
        CHECK.same("4: arc 0", x.weigh(0, MOST_WEIGHT), 0);
        CHECK.same("4: arc 0 again", x.weigh(0, 1), MOST_WEIGHT);
        CHECK.same("4: arc 58 is as it was", x.weigh(58, 1), 23);
        x.open(15, false);
        CHECK.same("4: a shut arc", x.weigh(15, 2), 1);
        CHECK.same("4: it stays shut", x.told(15, 2), 0);
    }

    /** "Answers whether it was OPEN." */
    private static void openAnswersWhetherItWas() {
        TreeOfArcs x = Start.FULL.make();
        for (int arc : new int[] {0, 59}) {
            CHECK.same("5: shut " + arc, x.open(arc, false), true);
            CHECK.same("5: shut again " + arc, x.open(arc, false), false);
            CHECK.same("5: one is shut", x.about(2), 59);
            CHECK.same("5: open " + arc, x.open(arc, true), false);
            CHECK.same("5: open again " + arc, x.open(arc, true), true);
            CHECK.same("5: none is shut", x.about(2), 60);
        }
        for (int arc = 0; arc < 60; arc++) {
            x.open(arc, false);
        }
        CHECK.same("5: all are shut", x.about(2), 0);
        CHECK.same("5: they are arcs still", x.about(1), 60);
        CHECK.same("6: as if there were none", x.solve(), 23);
        x.open(59, true);
        CHECK.same("6: one is come to", x.solve(), 22);
    }

    // ---- Promises 6 to 9

    /** "Answers how many NODES one can't come to (0: there is a TREE)." */
    private static void solveAnswersHowMany() {
        for (int n = 1; n <= 24; n++) {
            CHECK.same("6: none of " + n + " but the root", withNodes(n, n - 1).solve(), n - 1);
        }
        for (int shut = 0; shut < 23; shut++) {
            TreeOfArcs x = longestWay(1);
            x.open(shut, false);
            CHECK.same("6: the way ends at " + shut, x.solve(), 23 - shut);
            x.open(shut, true);
            CHECK.same("6: the way ends nowhere", x.solve(), 0);
        }
        TreeOfArcs back = withNodes(24, 23);
        for (int node = 1; node < 24; node++) {
            back.arc(node - 1, node, 1);
        }
        CHECK.same("6: all arcs go towards the root", back.solve(), 23);
    }

    private static void solveTwice() {
        for (Start start : Start.values()) {
            String once = Sight.of(() -> solved(start.make()));
            String twice = Sight.of(() -> solved(solved(start.make())));
            CHECK.sameText("6: solve again, from " + start, twice, once);
        }
    }

    /** "The COST of THE TREE; NONE when it was not solved, or there is none." */
    private static void costAtItsEnds() {
        CHECK.same("7: not solved", longestWay(0).cost(), NONE);
        CHECK.same("7: there is none", Start.NO_TREE.make().cost(), NONE);
        CHECK.same("7: the least", solved(longestWay(0)).cost(), 0);
        CHECK.same("7: the greatest", solved(longestWay(MOST_WEIGHT)).cost(), 23 * MOST_WEIGHT);
    }

    /** "NONE for the ROOT, and without THE TREE." */
    private static void intoAtItsEnds() {
        TreeOfArcs x = longestWay(1);
        CHECK.same("8: without the tree", x.into(23), NONE);
        x.solve();
        CHECK.same("8: the root", x.into(0), NONE);
        CHECK.same("8: behind the root", x.into(1), 0);
        CHECK.same("8: the last", x.into(23), 22);
        CHECK.outOfBounds("8: beyond the last", () -> x.into(24));
        CHECK.outOfBounds("8: before the root", () -> x.into(-1));
    }

    /** "Whether one can come to a NODE from the ROOT; solved or not." */
    private static void reachedSolvedOrNot() {
        for (int solves = 0; solves < 2; solves++) {
            TreeOfArcs x = longestWay(0);
            x.open(11, false);
            if (solves == 1) {
                x.solve();
            }
            CHECK.same("9: the root", x.isReached(0), true);
            CHECK.same("9: before the shut arc", x.isReached(11), true);
            CHECK.same("9: behind the shut arc", x.isReached(12), false);
            CHECK.same("9: the last", x.isReached(23), false);
            x.open(11, true);
            CHECK.same("9: the last when it is open", x.isReached(23), true);
            CHECK.outOfBounds("9: beyond the last", () -> x.isReached(24) ? 1 : 0);
            CHECK.outOfBounds("9: before the first", () -> x.isReached(-1) ? 1 : 0);
        }
    }

    /** Arcs in such an order that going through all of them comes to one node more each time. */
    private static void longestWayInWorstOrder() {
        TreeOfArcs x = withNodes(24, 0);
        for (int node = 23; node > 0; node--) {
            x.arc(node - 1, node, 1);
        }
        CHECK.same("9: the last node of the longest way", x.isReached(23), true);
        CHECK.same("6: all of the longest way", x.solve(), 0);
        CHECK.same("17: its depth", x.depth(23), 23);
        x.open(0, false);
        CHECK.same("9: the last node then", x.isReached(23), false);
        CHECK.same("6: all but the last", x.solve(), 1);
    }

    // ---- Promises 10 to 18

    /** "How many SETS there are; 0 without THE TREE." */
    private static void setsWithoutTree() {
        for (Start start : Start.values()) {
            CHECK.same("10: " + start, start.make().sets(), start.sets);
            if (start.sets == 0) {
                CHECK.outOfBounds("11: " + start, () -> start.make().set(0, 0));
                CHECK.outOfBounds("12: " + start, () -> start.make().isIn(0, 0) ? 1 : 0);
                CHECK.outOfBounds("13: " + start, () -> start.make().dual(0));
            }
        }
    }

    /** Of a solve with more sets nothing is left. The one way still open is 0 23 1 2 and so on. */
    private static void fewerSetsThanBefore() {
        TreeOfArcs x = Start.FULL.make();
        x.open(15, false);
        x.open(57, false);
        for (int arc = 18; arc < 58; arc += 2) {
            x.open(arc, false);
        }
        x.solve();
        CHECK.same("10: fewer sets", x.sets(), 23);
        CHECK.same("11: the last one is a node", x.set(22, 0), 1);
        CHECK.same("11: and live", x.set(22, 2), 1);
        CHECK.outOfBounds("13: behind the last", () -> x.dual(23));
        TreeOfArcs y = Start.SMALL_AFTER_FULL.make();
        CHECK.same("12: the first set", y.isIn(0, 0), true);
        CHECK.same("12: the second set", y.isIn(1, 1), true);
        CHECK.same("13: its dual", y.dual(1), 6);
        CHECK.outOfBounds("12: a node of the net before", () -> y.isIn(0, 3) ? 1 : 0);
        CHECK.outOfBounds("13: a set of the net before", () -> y.dual(2));
    }

    /** "the least SET that it is a part of, but itself (3; NONE)" and "also of what". */
    private static void setAtItsEnds() {
        TreeOfArcs x = Start.SOLVED.make();
        for (int k = 0; k < 4; k++) {
            int it = k;
            CHECK.same("11: nodes of set " + k, x.set(k, 0), k == 3 ? 3 : 1);
            CHECK.same("11: arc of set " + k, x.set(k, 1), new int[] {3, 1, 2, 4}[k]);
            CHECK.same("11: live, of set " + k, x.set(k, 2), k == 3 ? 1 : 0);
            CHECK.same("11: around set " + k, x.set(k, 3), k == 3 ? NONE : 3);
            CHECK.outOfBounds("11: what = -1 of set " + k, () -> x.set(it, -1));
            CHECK.outOfBounds("11: what = 4 of set " + k, () -> x.set(it, 4));
        }
        CHECK.outOfBounds("11: set 4", () -> x.set(4, 0));
        CHECK.outOfBounds("11: set -1", () -> x.set(-1, 3));
        CHECK.outOfBounds("11: set 4, what = 4", () -> x.set(4, 4));
    }

    /** "The WEIGHT of an ARC less the DUALS of all SETS that it comes into from outside". */
    private static void slackAtItsEnds() {
        TreeOfArcs x = Start.FULL.make();
        CHECK.same("14: an arc into the root", x.slack(0), 0);
        CHECK.same("14: an arc within all its sets but one", x.slack(15), 0);
        CHECK.same("14: into the outermost", x.slack(59), 0);
        CHECK.outOfBounds("14: beyond the last", () -> x.slack(60));
        CHECK.outOfBounds("14: before the first", () -> x.slack(-1));
        TreeOfArcs y = Start.SOLVED.make();
        CHECK.same("14: an arc that is not in the tree", y.slack(0), 2);
        CHECK.same("14: a shut arc, less than its duals", y.slack(5), 2 - 1 - 7);
        TreeOfArcs heavy = longestWay(0);
        heavy.arc(23, 0, MOST_WEIGHT);
        heavy.arc(0, 23, MOST_WEIGHT);
        CHECK.badState("14: not solved", () -> heavy.slack(23));
        heavy.solve();
        CHECK.same("14: the greatest, into the root", heavy.slack(23), MOST_WEIGHT);
        CHECK.same("14: the greatest, into a node", heavy.slack(24), MOST_WEIGHT);
        CHECK.same("14: the first arc", heavy.slack(0), 0);
        heavy.weigh(22, MOST_WEIGHT);
        heavy.open(22, false);
        heavy.arc(22, 23, 0);
        heavy.open(25, false);
        heavy.solve();
        CHECK.same("14: the dual of the last node", heavy.dual(22), MOST_WEIGHT);
        CHECK.same("14: a shut arc without weight", heavy.slack(25), -MOST_WEIGHT);
    }

    /** "IndexOutOfBoundsException: another what." */
    private static void aboutAtItsEnds() {
        for (Start start : Start.values()) {
            TreeOfArcs x = start.make();
            CHECK.same("15: nodes of " + start, x.about(0), start.nodes);
            CHECK.same("15: arcs of " + start, x.about(1), start.arcs);
            CHECK.same("15: open arcs of " + start, x.about(2),
                    start.arcs == 6 ? 5 : start.arcs);
            CHECK.same("15: root of " + start, x.about(3), start.root);
            CHECK.same("15: solved of " + start, x.about(4), start.isSolved() ? 1 : 0);
            CHECK.outOfBounds("15: about(-1) of " + start, () -> x.about(-1));
            CHECK.outOfBounds("15: about(5) of " + start, () -> x.about(5));
        }
    }

    /** "there is no such ARC, or another what". */
    private static void toldAtItsEnds() {
        TreeOfArcs x = Start.FULL.make();
        int[][] due = {{1, 0, 1, 0}, {0, 23, 1, 1}};
        for (int what = 0; what < 4; what++) {
            int it = what;
            CHECK.same("16: told(0, " + what + ")", x.told(0, what), due[0][what]);
            CHECK.same("16: told(59, " + what + ")", x.told(59, what), due[1][what]);
            CHECK.outOfBounds("16: told(-1, " + what + ")", () -> x.told(-1, it));
            CHECK.outOfBounds("16: told(60, " + what + ")", () -> x.told(60, it));
        }
        for (int arc : new int[] {-1, 0, 59, 60}) {
            CHECK.outOfBounds("16: told(" + arc + ", -1)", () -> x.told(arc, -1));
            CHECK.outOfBounds("16: told(" + arc + ", 4)", () -> x.told(arc, 4));
        }
        CHECK.same("16: not solved", Start.NOT_SOLVED.make().told(4, 3), 0);
        CHECK.same("16: no tree", Start.NO_TREE.make().told(0, 3), 0);
    }

    /** "on the way from the ROOT to a NODE, that one not counted; NONE without THE TREE." */
    private static void depthAndFarAtTheirEnds() {
        TreeOfArcs x = longestWay(MOST_WEIGHT);
        CHECK.same("17: the root, not solved", x.depth(0), NONE);
        CHECK.same("18: the root, not solved", x.far(0), NONE);
        x.solve();
        for (int node = 0; node < 24; node++) {
            CHECK.same("17: depth of " + node, x.depth(node), node);
            CHECK.same("18: far of " + node, x.far(node), node * MOST_WEIGHT);
        }
        for (int no : new int[] {-1, 24}) {
            CHECK.outOfBounds("17: depth(" + no + ")", () -> x.depth(no));
            CHECK.outOfBounds("18: far(" + no + ")", () -> x.far(no));
        }
        TreeOfArcs y = solved(longestWay(0));
        CHECK.same("18: far by arcs without weight", y.far(23), 0);
        TreeOfArcs without = Start.NO_TREE.make();
        CHECK.same("17: the root without the tree", without.depth(1), NONE);
        CHECK.same("18: the root without the tree", without.far(1), NONE);
    }
}
