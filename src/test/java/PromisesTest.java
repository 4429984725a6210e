/** Each promise of the document by itself: ordinary inputs, named edges, and wrong inputs. */
public final class PromisesTest {
    private static final int NONE = TreeOfArcs.NONE;
    private static final int MIN = Integer.MIN_VALUE;
    private static final int MAX = Integer.MAX_VALUE;
    private static final long MOST_WEIGHT = 1L << 40;

    private static final Check CHECK = new Check("PromisesTest");

    public static void main(String[] args) {
        newObject();
        nodes();
        nodesForgetsAll();
        arc();
        arcThrowsInOrder();
        arcWhenThereAreSixty();
        weigh();
        open();
        solve();
        solveAgain();
        cost();
        heaviestTree();
        into();
        leastSumOfPowers();
        isReached();
        sets();
        set();
        setNumbers();
        isIn();
        dual();
        slack();
        slackOfShutArc();
        about();
        told();
        depth();
        far();
        refusedCallsChangeNothing();
        changesEndWhatWasSolved();
        CHECK.end();
    }

    /** Root 0; the ring 1 2 3 of weight 1 each (arcs 1, 2, 3); arcs 0 and 4 come in from the root. */
    private static TreeOfArcs ringOfThree() {
        TreeOfArcs x = new TreeOfArcs();
        x.nodes(4, 0);
        x.arc(0, 1, 10);
        x.arc(1, 2, 1);
        x.arc(2, 3, 1);
        x.arc(3, 1, 1);
        x.arc(0, 3, 8);
        return x;
    }

    private static TreeOfArcs solvedRing() {
        TreeOfArcs x = ringOfThree();
        x.solve();
        return x;
    }

    /** Root 1; nodes 0 and 2 reach one another only. */
    private static TreeOfArcs withoutTree() {
        TreeOfArcs x = new TreeOfArcs();
        x.nodes(3, 1);
        x.arc(0, 2, 1);
        x.arc(2, 0, 1);
        x.solve();
        return x;
    }

    private static void newObject() {
        TreeOfArcs x = new TreeOfArcs();
        CHECK.same("1: nodes of a new object", x.about(0), 1);
        CHECK.same("1: arcs of a new object", x.about(1), 0);
        CHECK.same("1: open arcs of a new object", x.about(2), 0);
        CHECK.same("1: root of a new object", x.about(3), 0);
        CHECK.same("1: a new object is solved", x.about(4), 0);
        CHECK.same("1: cost of a new object", x.cost(), NONE);
        CHECK.same("1: sets of a new object", x.sets(), 0);
        CHECK.same("1: the root is reached", x.isReached(0), true);
        CHECK.outOfBounds("1: node 1 of a new object", () -> x.into(1));
        CHECK.outOfBounds("1: arc 0 of a new object", () -> x.told(0, 0));
    }

    private static long callNodes(TreeOfArcs x, int n, int root) {
        x.nodes(n, root);
        return 0;
    }

    private static void nodes() {
        TreeOfArcs x = new TreeOfArcs();
        x.nodes(24, 23);
        CHECK.same("2: nodes after nodes(24, 23)", x.about(0), 24);
        CHECK.same("2: root after nodes(24, 23)", x.about(3), 23);
        CHECK.badArgument("2: nodes(25, 0)", () -> callNodes(x, 25, 0));
        CHECK.badArgument("2: nodes(0, 0)", () -> callNodes(x, 0, 0));
        CHECK.badArgument("2: nodes(-1, 0)", () -> callNodes(x, -1, 0));
        CHECK.badArgument("2: nodes(MIN, 0)", () -> callNodes(x, MIN, 0));
        CHECK.badArgument("2: nodes(MAX, 0)", () -> callNodes(x, MAX, 0));
        CHECK.badArgument("2: nodes(5, 5)", () -> callNodes(x, 5, 5));
        CHECK.badArgument("2: nodes(5, -1)", () -> callNodes(x, 5, -1));
        CHECK.badArgument("2: nodes(5, MIN)", () -> callNodes(x, 5, MIN));
        CHECK.badArgument("2: nodes(5, MAX)", () -> callNodes(x, 5, MAX));
        CHECK.same("2: nodes after refused calls", x.about(0), 24);
        x.nodes(1, 0);
        CHECK.same("2: nodes after nodes(1, 0)", x.about(0), 1);
        CHECK.same("2: root after nodes(1, 0)", x.about(3), 0);
    }

    private static void nodesForgetsAll() {
        TreeOfArcs x = solvedRing();
        x.open(0, false);
        x.solve();
        x.nodes(3, 2);
        CHECK.same("2: arcs after nodes", x.about(1), 0);
        CHECK.same("2: open arcs after nodes", x.about(2), 0);
        CHECK.same("2: solved after nodes", x.about(4), 0);
        CHECK.same("2: cost after nodes", x.cost(), NONE);
        CHECK.same("2: sets after nodes", x.sets(), 0);
        CHECK.same("2: into after nodes", x.into(1), NONE);
        CHECK.same("2: the first arc after nodes", x.arc(2, 0, 3), 0);
        CHECK.same("2: it is open, though arc 0 was shut before", x.told(0, 2), 1);
        CHECK.same("2: solve after nodes", x.solve(), 1);
    }

    private static void arc() {
        TreeOfArcs x = new TreeOfArcs();
        x.nodes(3, 0);
        CHECK.same("3: the first arc", x.arc(0, 1, 0), 0);
        CHECK.same("3: the second arc", x.arc(1, 2, MOST_WEIGHT), 1);
        CHECK.same("3: an arc that goes the same way", x.arc(1, 2, 5), 2);
        CHECK.same("3: an arc into the root", x.arc(2, 0, 5), 3);
        CHECK.same("3: arcs", x.about(1), 4);
        CHECK.same("3: open arcs", x.about(2), 4);
        CHECK.same("3: from", x.told(3, 0), 2);
        CHECK.same("3: to", x.told(3, 1), 0);
        CHECK.same("3: weight", x.weigh(1, 0), MOST_WEIGHT);
    }

    private static void arcThrowsInOrder() {
        TreeOfArcs x = new TreeOfArcs();
        x.nodes(3, 0);
        CHECK.outOfBounds("3: arc(-1, 0, 1)", () -> x.arc(-1, 0, 1));
        CHECK.outOfBounds("3: arc(0, 3, 1)", () -> x.arc(0, 3, 1));
        CHECK.outOfBounds("3: arc(3, 0, 1)", () -> x.arc(3, 0, 1));
        CHECK.outOfBounds("3: arc(0, MIN, 1)", () -> x.arc(0, MIN, 1));
        CHECK.outOfBounds("3: arc(MAX, 0, 1)", () -> x.arc(MAX, 0, 1));
        CHECK.badArgument("3: arc(1, 1, 1)", () -> x.arc(1, 1, 1));
        CHECK.badArgument("3: arc(0, 1, -1)", () -> x.arc(0, 1, -1));
        CHECK.badArgument("3: arc(0, 1, 2^40 + 1)", () -> x.arc(0, 1, MOST_WEIGHT + 1));
        CHECK.badArgument("3: arc(0, 1, Long.MIN)", () -> x.arc(0, 1, Long.MIN_VALUE));
        CHECK.badArgument("3: arc(0, 1, Long.MAX)", () -> x.arc(0, 1, Long.MAX_VALUE));
        CHECK.outOfBounds("3: both are the same and no node", () -> x.arc(3, 3, 1));
        CHECK.outOfBounds("3: no node and no weight", () -> x.arc(0, 3, -1));
        CHECK.same("3: arcs after refused ones", x.about(1), 0);
    }

    private static void arcWhenThereAreSixty() {
        TreeOfArcs x = new TreeOfArcs();
        x.nodes(2, 0);
        for (int i = 0; i < 60; i++) {
            CHECK.same("3: arc " + i, x.arc(0, 1, 60 - i), i);
        }
        x.solve();
        CHECK.same("3: the 61st arc", x.arc(0, 1, 0), NONE);
        CHECK.same("3: arcs after the 61st", x.about(1), 60);
        CHECK.same("3: still solved after the 61st", x.about(4), 1);
        CHECK.same("3: the cost after the 61st", x.cost(), 1);
        CHECK.same("3: the arc 59 is in the tree", x.into(1), 59);
        CHECK.outOfBounds("3: the 61st to no node", () -> x.arc(0, 2, 0));
        CHECK.badArgument("3: the 61st with no weight", () -> x.arc(0, 1, -1));
        CHECK.badArgument("3: the 61st to the same node", () -> x.arc(1, 1, 0));
        CHECK.same("3: a shut arc is an arc still", x.open(3, false), true);
        CHECK.same("3: the 61st when one is shut", x.arc(0, 1, 0), NONE);
    }

    private static void weigh() {
        TreeOfArcs x = solvedRing();
        CHECK.same("4: weigh(4, 20)", x.weigh(4, 20), 8);
        CHECK.same("4: weigh(4, 2^40)", x.weigh(4, MOST_WEIGHT), 20);
        CHECK.same("4: weigh(4, 0)", x.weigh(4, 0), MOST_WEIGHT);
        CHECK.same("4: weigh(4, 20) again", x.weigh(4, 20), 0);
        x.solve();
        CHECK.same("4: the cost with the other weight", x.cost(), 12);
        CHECK.outOfBounds("4: weigh(5, 1)", () -> x.weigh(5, 1));
        CHECK.outOfBounds("4: weigh(-1, 1)", () -> x.weigh(-1, 1));
        CHECK.outOfBounds("4: weigh(MAX, 1)", () -> x.weigh(MAX, 1));
        CHECK.outOfBounds("4: weigh(60, 1)", () -> x.weigh(60, 1));
        CHECK.badArgument("4: weigh(0, -1)", () -> x.weigh(0, -1));
        CHECK.badArgument("4: weigh(0, 2^40 + 1)", () -> x.weigh(0, MOST_WEIGHT + 1));
        CHECK.outOfBounds("4: weigh(5, -1)", () -> x.weigh(5, -1));
        CHECK.same("4: the weight after refused calls", x.weigh(0, 10), 10);
    }

    private static void open() {
        TreeOfArcs x = solvedRing();
        CHECK.same("5: open(4, false)", x.open(4, false), true);
        CHECK.same("5: open(4, false) again", x.open(4, false), false);
        CHECK.same("5: told of a shut arc", x.told(4, 2), 0);
        CHECK.same("5: open arcs", x.about(2), 4);
        CHECK.same("5: arcs", x.about(1), 5);
        x.solve();
        CHECK.same("5: the cost without the arc", x.cost(), 12);
        CHECK.same("5: open(4, true)", x.open(4, true), false);
        CHECK.same("5: open(4, true) again", x.open(4, true), true);
        x.solve();
        CHECK.same("5: the cost with the arc", x.cost(), 10);
        CHECK.outOfBounds("5: open(5, true)", () -> x.open(5, true) ? 1 : 0);
        CHECK.outOfBounds("5: open(-1, true)", () -> x.open(-1, true) ? 1 : 0);
        CHECK.outOfBounds("5: open(MIN, true)", () -> x.open(MIN, true) ? 1 : 0);
    }

    private static void solve() {
        TreeOfArcs x = new TreeOfArcs();
        CHECK.same("6: solve of a new object", x.solve(), 0);
        CHECK.same("6: it is solved", x.about(4), 1);
        x.nodes(24, 7);
        CHECK.same("6: solve without arcs", x.solve(), 23);
        CHECK.same("6: solved without a tree", x.about(4), 1);
        CHECK.same("6: solve of the ring", ringOfThree().solve(), 0);
        TreeOfArcs y = ringOfThree();
        y.open(0, false);
        y.open(4, false);
        CHECK.same("6: solve when all arcs from the root are shut", y.solve(), 3);
        y.nodes(3, 0);
        y.arc(1, 0, 1);
        y.arc(2, 1, 1);
        CHECK.same("6: arcs against the way", y.solve(), 2);
    }

    private static void solveAgain() {
        TreeOfArcs x = solvedRing();
        CHECK.same("6: solve a second time", x.solve(), 0);
        CHECK.same("6: the cost then", x.cost(), 10);
        CHECK.same("6: the sets then", x.sets(), 4);
        x.open(4, false);
        x.open(0, false);
        x.solve();
        CHECK.same("6: cost when the tree is gone", x.cost(), NONE);
        CHECK.same("6: sets when the tree is gone", x.sets(), 0);
        x.open(0, true);
        CHECK.same("6: solve when there is a tree anew", x.solve(), 0);
        CHECK.same("6: the cost of that", x.cost(), 12);
    }

    private static void cost() {
        TreeOfArcs x = ringOfThree();
        CHECK.same("7: cost before solve", x.cost(), NONE);
        x.solve();
        CHECK.same("7: cost", x.cost(), 10);
        CHECK.same("7: cost without a tree", withoutTree().cost(), NONE);
        TreeOfArcs y = new TreeOfArcs();
        y.solve();
        CHECK.same("7: cost of the root alone", y.cost(), 0);
    }

    private static void heaviestTree() {
        TreeOfArcs x = new TreeOfArcs();
        x.nodes(24, 0);
        for (int node = 1; node < 24; node++) {
            x.arc(node - 1, node, MOST_WEIGHT);
        }
        CHECK.same("6: solve of the longest way", x.solve(), 0);
        CHECK.same("7: the greatest cost", x.cost(), 23 * MOST_WEIGHT);
        CHECK.same("17: the greatest depth", x.depth(23), 23);
        CHECK.same("18: the farthest node", x.far(23), 23 * MOST_WEIGHT);
    }

    private static void into() {
        TreeOfArcs x = ringOfThree();
        CHECK.same("8: into before solve", x.into(1), NONE);
        x.solve();
        CHECK.same("8: into the root", x.into(0), NONE);
        CHECK.same("8: into 1", x.into(1), 3);
        CHECK.same("8: into 2", x.into(2), 1);
        CHECK.same("8: into 3", x.into(3), 4);
        CHECK.outOfBounds("8: into(4)", () -> x.into(4));
        CHECK.outOfBounds("8: into(-1)", () -> x.into(-1));
        CHECK.outOfBounds("8: into(MAX)", () -> x.into(MAX));
        CHECK.same("8: into without a tree", withoutTree().into(0), NONE);
    }

    /** Trees of one cost: the one without the arc of the highest number wins. */
    private static void leastSumOfPowers() {
        TreeOfArcs x = new TreeOfArcs();
        x.nodes(3, 0);
        x.arc(1, 2, 0);
        x.arc(2, 1, 0);
        x.arc(0, 1, 7);
        x.arc(0, 2, 7);
        x.solve();
        CHECK.same("8: of arcs 0 2 and 1 3 the first, into 1", x.into(1), 2);
        CHECK.same("8: of arcs 0 2 and 1 3 the first, into 2", x.into(2), 0);
        x.nodes(3, 0);
        x.arc(0, 2, 7);
        x.arc(2, 1, 0);
        x.arc(0, 1, 7);
        x.arc(1, 2, 0);
        x.solve();
        CHECK.same("8: of arcs 0 1 and 2 3 the first, into 1", x.into(1), 1);
        CHECK.same("8: of arcs 0 1 and 2 3 the first, into 2", x.into(2), 0);
        x.nodes(2, 0);
        for (int i = 0; i < 60; i++) {
            x.arc(0, 1, 3);
        }
        x.solve();
        CHECK.same("8: the first of arcs that go the same way", x.into(1), 0);
    }

    private static void isReached() {
        TreeOfArcs x = ringOfThree();
        CHECK.same("9: reached before solve", x.isReached(2), true);
        x.solve();
        CHECK.same("9: reached after solve", x.isReached(2), true);
        x.open(0, false);
        x.open(2, false);
        CHECK.same("9: reached through 3 and 1", x.isReached(2), true);
        x.open(4, false);
        CHECK.same("9: not reached when arcs are shut", x.isReached(2), false);
        CHECK.same("9: the root is always reached", x.isReached(0), true);
        CHECK.outOfBounds("9: isReached(4)", () -> x.isReached(4) ? 1 : 0);
        CHECK.outOfBounds("9: isReached(-1)", () -> x.isReached(-1) ? 1 : 0);
        CHECK.outOfBounds("9: isReached(MIN)", () -> x.isReached(MIN) ? 1 : 0);
        TreeOfArcs y = withoutTree();
        CHECK.same("9: 0 without a tree", y.isReached(0), false);
        CHECK.same("9: the root without a tree", y.isReached(1), true);
    }

    private static void sets() {
        TreeOfArcs x = ringOfThree();
        CHECK.same("10: sets before solve", x.sets(), 0);
        x.solve();
        CHECK.same("10: sets", x.sets(), 4);
        CHECK.same("10: sets without a tree", withoutTree().sets(), 0);
        TreeOfArcs y = new TreeOfArcs();
        y.solve();
        CHECK.same("10: sets of the root alone", y.sets(), 0);
        y.nodes(3, 0);
        y.arc(0, 1, 1);
        y.arc(1, 2, 1);
        y.solve();
        CHECK.same("10: sets without a ring", y.sets(), 2);
    }

    private static void set() {
        TreeOfArcs x = solvedRing();
        CHECK.same("11: nodes of set 0", x.set(0, 0), 1);
        CHECK.same("11: nodes of set 3", x.set(3, 0), 3);
        CHECK.same("11: arc of set 0", x.set(0, 1), 3);
        CHECK.same("11: arc of set 3", x.set(3, 1), 4);
        CHECK.same("11: set 0 is live at last", x.set(0, 2), 0);
        CHECK.same("11: set 3 is live at last", x.set(3, 2), 1);
        CHECK.same("11: the set around set 0", x.set(0, 3), 3);
        CHECK.same("11: the set around set 3", x.set(3, 3), NONE);
        CHECK.outOfBounds("11: set(0, 4)", () -> x.set(0, 4));
        CHECK.outOfBounds("11: set(0, -1)", () -> x.set(0, -1));
        CHECK.outOfBounds("11: set(0, MIN)", () -> x.set(0, MIN));
        CHECK.outOfBounds("11: set(4, 0)", () -> x.set(4, 0));
        CHECK.outOfBounds("11: set(-1, 0)", () -> x.set(-1, 0));
        CHECK.outOfBounds("11: set(MAX, 0)", () -> x.set(MAX, 0));
        CHECK.outOfBounds("11: set before solve", () -> ringOfThree().set(0, 0));
        CHECK.outOfBounds("11: set without a tree", () -> withoutTree().set(0, 0));
    }

    /** The rings 4 5 and 1 2 lie apart, and 3 is in one with 4 5 that is made last. */
    private static void setNumbers() {
        TreeOfArcs x = new TreeOfArcs();
        x.nodes(6, 0);
        x.arc(4, 5, 0);
        x.arc(5, 4, 0);
        x.arc(1, 2, 0);
        x.arc(2, 1, 0);
        x.arc(4, 3, 0);
        x.arc(3, 5, 1);
        x.arc(0, 1, 9);
        x.arc(2, 3, 5);
        x.solve();
        CHECK.same("11: sets", x.sets(), 8);
        for (int k = 0; k < 5; k++) {
            CHECK.same("11: set " + k + " is a node", x.isIn(k, k + 1), true);
        }
        CHECK.same("11: set 5 is 1 2", x.set(5, 0) == 2 && x.isIn(5, 1) && x.isIn(5, 2), true);
        CHECK.same("11: set 6 is 4 5", x.set(6, 0) == 2 && x.isIn(6, 4) && x.isIn(6, 5), true);
        CHECK.same("11: set 7 is 3 4 5", x.set(7, 0) == 3 && x.isIn(7, 3) && x.isIn(7, 4), true);
        CHECK.same("11: around 4 the least set", x.set(3, 3), 6);
        CHECK.same("11: around 3", x.set(2, 3), 7);
        CHECK.same("11: around 4 5", x.set(6, 3), 7);
        CHECK.same("11: around 1 2", x.set(5, 3), NONE);
        CHECK.same("13: dual of 4 5", x.dual(6), 1);
        CHECK.same("13: dual of 3 4 5", x.dual(7), 5);
        CHECK.same("13: dual of 1 2", x.dual(5), 9);
        CHECK.same("7: cost", x.cost(), 15);
    }

    private static void isIn() {
        TreeOfArcs x = solvedRing();
        CHECK.same("12: 1 is in set 0", x.isIn(0, 1), true);
        CHECK.same("12: 2 is in set 0", x.isIn(0, 2), false);
        CHECK.same("12: 3 is in set 3", x.isIn(3, 3), true);
        CHECK.same("12: the root is in set 3", x.isIn(3, 0), false);
        CHECK.outOfBounds("12: isIn(4, 1)", () -> x.isIn(4, 1) ? 1 : 0);
        CHECK.outOfBounds("12: isIn(-1, 1)", () -> x.isIn(-1, 1) ? 1 : 0);
        CHECK.outOfBounds("12: isIn(0, 4)", () -> x.isIn(0, 4) ? 1 : 0);
        CHECK.outOfBounds("12: isIn(0, -1)", () -> x.isIn(0, -1) ? 1 : 0);
        CHECK.outOfBounds("12: isIn(0, 33)", () -> x.isIn(0, 33) ? 1 : 0);
        CHECK.outOfBounds("12: before solve", () -> ringOfThree().isIn(0, 1) ? 1 : 0);
        CHECK.outOfBounds("12: without a tree", () -> withoutTree().isIn(0, 1) ? 1 : 0);
    }

    private static void dual() {
        TreeOfArcs x = solvedRing();
        CHECK.same("13: dual of set 0", x.dual(0), 1);
        CHECK.same("13: dual of set 3", x.dual(3), 7);
        CHECK.outOfBounds("13: dual(4)", () -> x.dual(4));
        CHECK.outOfBounds("13: dual(-1)", () -> x.dual(-1));
        CHECK.outOfBounds("13: dual(MIN)", () -> x.dual(MIN));
        CHECK.outOfBounds("13: before solve", () -> ringOfThree().dual(0));
        CHECK.outOfBounds("13: without a tree", () -> withoutTree().dual(0));
    }

    private static void slack() {
        TreeOfArcs x = solvedRing();
        x.arc(2, 0, 6);
        x.arc(0, 2, 30);
        x.solve();
        CHECK.same("14: slack of an arc that is not in the tree", x.slack(0), 2);
        CHECK.same("14: slack of an arc within a set", x.slack(2), 0);
        CHECK.same("14: slack of an arc of the tree", x.slack(4), 0);
        CHECK.same("14: slack of an arc into the root", x.slack(5), 6);
        CHECK.same("14: slack of an arc into two sets", x.slack(6), 22);
        CHECK.outOfBounds("14: slack(7)", () -> x.slack(7));
        CHECK.outOfBounds("14: slack(-1)", () -> x.slack(-1));
        CHECK.outOfBounds("14: slack(MAX)", () -> x.slack(MAX));
        CHECK.badState("14: before solve", () -> ringOfThree().slack(0));
        CHECK.badState("14: without a tree", () -> withoutTree().slack(0));
        CHECK.outOfBounds("14: no such arc before solve", () -> ringOfThree().slack(5));
        CHECK.outOfBounds("14: no such arc without a tree", () -> withoutTree().slack(2));
    }

    private static void slackOfShutArc() {
        TreeOfArcs x = ringOfThree();
        x.open(4, false);
        x.solve();
        CHECK.same("14: slack of a shut arc", x.slack(4), 8 - 1 - 9);
    }

    private static void about() {
        TreeOfArcs x = ringOfThree();
        x.open(1, false);
        CHECK.same("15: nodes", x.about(0), 4);
        CHECK.same("15: arcs", x.about(1), 5);
        CHECK.same("15: open arcs", x.about(2), 4);
        CHECK.same("15: root", x.about(3), 0);
        CHECK.same("15: solved before solve", x.about(4), 0);
        x.solve();
        CHECK.same("15: solved after solve", x.about(4), 1);
        CHECK.same("15: solved without a tree", withoutTree().about(4), 1);
        CHECK.same("15: root of another net", withoutTree().about(3), 1);
        CHECK.outOfBounds("15: about(5)", () -> x.about(5));
        CHECK.outOfBounds("15: about(-1)", () -> x.about(-1));
        CHECK.outOfBounds("15: about(MAX)", () -> x.about(MAX));
    }

    private static void told() {
        TreeOfArcs x = ringOfThree();
        CHECK.same("16: from", x.told(3, 0), 3);
        CHECK.same("16: to", x.told(3, 1), 1);
        CHECK.same("16: open", x.told(3, 2), 1);
        CHECK.same("16: in the tree before solve", x.told(3, 3), 0);
        x.solve();
        CHECK.same("16: in the tree", x.told(3, 3), 1);
        CHECK.same("16: not in the tree", x.told(2, 3), 0);
        CHECK.same("16: without a tree", withoutTree().told(0, 3), 0);
        CHECK.outOfBounds("16: told(5, 0)", () -> x.told(5, 0));
        CHECK.outOfBounds("16: told(-1, 0)", () -> x.told(-1, 0));
        CHECK.outOfBounds("16: told(0, 4)", () -> x.told(0, 4));
        CHECK.outOfBounds("16: told(0, -1)", () -> x.told(0, -1));
        CHECK.outOfBounds("16: told(MIN, MAX)", () -> x.told(MIN, MAX));
    }

    private static void depth() {
        TreeOfArcs x = ringOfThree();
        CHECK.same("17: depth before solve", x.depth(0), NONE);
        x.solve();
        CHECK.same("17: depth of the root", x.depth(0), 0);
        CHECK.same("17: depth of 3", x.depth(3), 1);
        CHECK.same("17: depth of 1", x.depth(1), 2);
        CHECK.same("17: depth of 2", x.depth(2), 3);
        CHECK.outOfBounds("17: depth(4)", () -> x.depth(4));
        CHECK.outOfBounds("17: depth(-1)", () -> x.depth(-1));
        CHECK.same("17: depth of the root without a tree", withoutTree().depth(1), NONE);
        CHECK.outOfBounds("17: no node without a tree", () -> withoutTree().depth(3));
    }

    private static void far() {
        TreeOfArcs x = ringOfThree();
        CHECK.same("18: far before solve", x.far(0), NONE);
        x.solve();
        CHECK.same("18: far of the root", x.far(0), 0);
        CHECK.same("18: far of 3", x.far(3), 8);
        CHECK.same("18: far of 1", x.far(1), 9);
        CHECK.same("18: far of 2", x.far(2), 10);
        CHECK.outOfBounds("18: far(4)", () -> x.far(4));
        CHECK.outOfBounds("18: far(MIN)", () -> x.far(MIN));
        CHECK.same("18: far of the root without a tree", withoutTree().far(1), NONE);
        CHECK.outOfBounds("18: no node without a tree", () -> withoutTree().far(3));
    }

    private static void refusedCallsChangeNothing() {
        TreeOfArcs x = solvedRing();
        CHECK.badArgument("2: refused nodes", () -> callNodes(x, 4, 4));
        CHECK.badArgument("3: refused arc", () -> x.arc(0, 1, -1));
        CHECK.outOfBounds("3: refused arc", () -> x.arc(0, 4, 1));
        CHECK.badArgument("4: refused weigh", () -> x.weigh(0, -1));
        CHECK.outOfBounds("4: refused weigh", () -> x.weigh(5, 1));
        CHECK.outOfBounds("5: refused open", () -> x.open(5, false) ? 1 : 0);
        CHECK.same("refused calls leave it solved", x.about(4), 1);
        CHECK.same("refused calls leave the cost", x.cost(), 10);
        CHECK.same("refused calls leave the sets", x.sets(), 4);
        CHECK.same("refused calls leave the arcs", x.about(1), 5);
    }

    private static void changesEndWhatWasSolved() {
        TreeOfArcs x = solvedRing();
        x.arc(1, 0, 5);
        checkUnsolved("3: after arc", x);
        x.solve();
        x.weigh(0, 10);
        checkUnsolved("4: after weigh, though to the same weight", x);
        x.solve();
        x.open(0, true);
        checkUnsolved("5: after open, though it was open", x);
        x.solve();
        x.nodes(4, 0);
        checkUnsolved("2: after nodes", x);
    }

    private static void checkUnsolved(String when, TreeOfArcs x) {
        CHECK.same(when + ": solved", x.about(4), 0);
        CHECK.same(when + ": cost", x.cost(), NONE);
        CHECK.same(when + ": sets", x.sets(), 0);
        CHECK.same(when + ": into", x.into(1), NONE);
        CHECK.same(when + ": depth", x.depth(1), NONE);
        CHECK.same(when + ": far", x.far(1), NONE);
        CHECK.outOfBounds(when + ": dual", () -> x.dual(0));
    }
}
