import java.util.ArrayList;
import java.util.Collections;
import java.util.List;
import java.util.Random;

/** Many nets and runs of calls, answer by answer against the model, the proof and all trees. */
public final class ModelTest {
    private static final long MOST_WEIGHT = 1099511627776L;
    private static final int MOST_CHOICES = 20000;
    private static final int MOST_CALLS = 512;

    private static final Check CHECK = new Check("ModelTest");

    public static void main(String[] args) {
        for (int seed = 0; seed < 1500 && CHECK.isClean(); seed++) {
            new ModelTest(seed).checkNets();
        }
        for (int seed = 0; seed < 400 && CHECK.isClean(); seed++) {
            new ModelTest(seed).checkRunOfCalls();
        }
        new ModelTest(0).checkDeepestNest();
        CHECK.end();
    }

    private final Random dice;
    private final Model model = new Model();
    private final int run;
    /** The calls that made the object what it is, so that another one can be made like it. */
    private final List<Sight.Ask> changes = new ArrayList<>();
    private TreeOfArcs used = new TreeOfArcs();
    private int calls = 0;

    private ModelTest(int seed) {
        // Seeds near one another throw nearly the same first dice, so they are spread.
        dice = new Random(seed * 0x9E3779B97F4A7C15L);
        run = seed;
    }

    /** The object for one call more; nothing is promised of one that has had 512. */
    private TreeOfArcs x() {
        if (calls == MOST_CALLS) {
            used = new TreeOfArcs();
            for (Sight.Ask change : changes) {
                change.of(used);
            }
            calls = changes.size();
        }
        calls++;
        return used;
    }

    private void same(String call, Check.Call got, Check.Call due) {
        CHECK.sameText("run " + run + ": " + call, Check.outcome(got), Check.outcome(due));
    }

    private void sameChange(String call, Sight.Ask change, Check.Call due) {
        String outcome = Check.outcome(() -> change.of(x()));
        CHECK.sameText("run " + run + ": " + call, outcome, Check.outcome(due));
        if (!outcome.startsWith("throws.")) {
            changes.add(change);
        }
    }

    // ---- nets that are made, solved, changed and solved again

    private void checkNets() {
        makeNet();
        for (int round = 0; round < 4; round++) {
            doSolve();
            compareAll();
            if (x().cost() != TreeOfArcs.NONE) {
                checkProof();
                checkAgainstAllTrees();
            }
            changeSomeArcs();
        }
    }

    private void makeNet() {
        int n = 1 + dice.nextInt(dice.nextBoolean() ? 6 : 24);
        int root = dice.nextInt(n);
        doNodes(n, root);
        if (n > 1) {
            long span = new long[] {1, 2, 4, 30, 1000, MOST_WEIGHT}[dice.nextInt(6)];
            List<long[]> arcs = dice.nextInt(4) == 0
                    ? scatteredArcs(n, span) : ringedArcs(n, root, span);
            Collections.shuffle(arcs, dice);
            for (long[] arc : arcs) {
                doArc((int) arc[0], (int) arc[1], arc[2]);
            }
        }
    }

    private List<long[]> scatteredArcs(int n, long span) {
        List<long[]> arcs = new ArrayList<>();
        int many = dice.nextInt(61);
        while (arcs.size() < many) {
            int from = dice.nextInt(n);
            int to = (from + 1 + dice.nextInt(n - 1)) % n;
            arcs.add(new long[] {from, to, weightWithin(span)});
        }
        return arcs;
    }

    /** A ring of all nodes but the root, with heavy arcs from it: so rings lie within rings. */
    private List<long[]> ringedArcs(int n, int root, long span) {
        List<Integer> others = new ArrayList<>();
        for (int node = 0; node < n; node++) {
            if (node != root) {
                others.add(node);
            }
        }
        Collections.shuffle(others, dice);
        List<long[]> arcs = new ArrayList<>();
        int entries = 1 + dice.nextInt(3);
        for (int i = 0; i < entries; i++) {
            int to = others.get(dice.nextInt(n - 1));
            arcs.add(new long[] {root, to, MOST_WEIGHT - dice.nextInt(3)});
        }
        for (int i = 0; i < n - 1 && n > 2; i++) {
            arcs.add(new long[] {others.get(i), others.get((i + 1) % (n - 1)), weightWithin(span)});
        }
        int many = dice.nextInt(61);
        while (arcs.size() < many && n > 2) {
            int from = dice.nextInt(n - 1);
            int step = 1 + dice.nextInt(Math.min(n - 2, dice.nextBoolean() ? 3 : n));
            int to = others.get(Math.floorMod(from - step, n - 1));
            arcs.add(new long[] {others.get(from), to, weightWithin(span)});
        }
        return arcs;
    }

    private long weightWithin(long span) {
        return Math.floorMod(dice.nextLong(), span + 1);
    }

    private void changeSomeArcs() {
        int many = model.arcs.size();
        for (int i = 0; i < 3 && many > 0; i++) {
            doOpen(dice.nextInt(many), dice.nextInt(3) > 0);
            doWeigh(dice.nextInt(many), weightWithin(dice.nextBoolean() ? 3 : 1000));
        }
    }

    private void checkDeepestNest() {
        doNodes(24, 0);
        doArc(2, 1, 1);
        doArc(1, 2, 1);
        for (int node = 3; node < 24; node++) {
            doArc(node - 1, node, 0);
            doArc(node, 1, node);
        }
        doArc(0, 23, MOST_WEIGHT);
        doSolve();
        CHECK.same("sets of the deepest nest", x().sets(), 45);
        compareAll();
        checkProof();
    }

    // ---- what a solved net must be

    /** Every tree enters every set at least once, so none costs less than the duals together. */
    private void checkProof() {
        long sum = 0;
        for (int k = 0; k < x().sets(); k++) {
            sum += x().dual(k);
            CHECK.same("run " + run + ": dual(" + k + ") is not below 0", x().dual(k) >= 0, true);
            CHECK.same("run " + run + ": tree arcs into set " + k, treeArcsInto(k), 1);
        }
        CHECK.same("run " + run + ": cost() is the sum of the duals", x().cost(), sum);
        for (int arc = 0; arc < x().about(1); arc++) {
            if (x().told(arc, 2) == 1) {
                CHECK.same("run " + run + ": slack(" + arc + ") is not below 0",
                        x().slack(arc) >= 0, true);
            }
            if (x().told(arc, 3) == 1) {
                CHECK.same("run " + run + ": slack(" + arc + ") in the tree", x().slack(arc), 0);
            }
        }
    }

    private int treeArcsInto(int k) {
        int count = 0;
        for (int arc = 0; arc < x().about(1); arc++) {
            boolean enters = x().isIn(k, x().told(arc, 1)) && !x().isIn(k, x().told(arc, 0));
            if (enters && x().told(arc, 3) == 1) {
                count++;
            }
        }
        return count;
    }

    private int[] choice;
    private long leastCost;
    private long leastPowers;
    private int[] leastChoice;

    /** Tries every way to give each node one open arc, where these are not too many. */
    private void checkAgainstAllTrees() {
        long choices = 1;
        for (int node = 0; node < x().about(0); node++) {
            choices = Math.min(MOST_CHOICES + 1, choices * Math.max(1, openArcsInto(node)));
        }
        if (choices > MOST_CHOICES) {
            return;
        }
        choice = new int[x().about(0)];
        leastChoice = null;
        tryArcsInto(0);
        CHECK.same("run " + run + ": least cost of all trees", x().cost(), leastCost);
        for (int node = 0; node < x().about(0); node++) {
            CHECK.same("run " + run + ": into(" + node + ") of all trees", x().into(node),
                    leastChoice[node]);
        }
    }

    private int openArcsInto(int node) {
        int count = 0;
        for (Model.Arc arc : model.arcs) {
            count += node != x().about(3) && arc.isOpen && arc.to == node ? 1 : 0;
        }
        return count;
    }

    private void tryArcsInto(int node) {
        if (node == choice.length) {
            keepIfLess();
        } else if (node == x().about(3)) {
            choice[node] = -1;
            tryArcsInto(node + 1);
        } else {
            for (int arc = 0; arc < model.arcs.size(); arc++) {
                if (model.arcs.get(arc).isOpen && model.arcs.get(arc).to == node) {
                    choice[node] = arc;
                    tryArcsInto(node + 1);
                }
            }
        }
    }

    private void keepIfLess() {
        long cost = 0;
        long powers = 0;
        for (int node = 0; node < choice.length; node++) {
            if (!comesFromRoot(node)) {
                return;
            }
            if (choice[node] >= 0) {
                cost += model.arcs.get(choice[node]).weight;
                powers += 1L << choice[node];
            }
        }
        boolean isLess = cost < leastCost || cost == leastCost && powers < leastPowers;
        if (leastChoice == null || isLess) {
            leastCost = cost;
            leastPowers = powers;
            leastChoice = choice.clone();
        }
    }

    private boolean comesFromRoot(int node) {
        int at = node;
        for (int step = 0; step < choice.length && choice[at] >= 0; step++) {
            at = model.arcs.get(choice[at]).from;
        }
        return choice[at] < 0;
    }

    // ---- any calls in any order, with wrong arguments among them

    private void checkRunOfCalls() {
        doNodes(2 + dice.nextInt(5), 0);
        int busyness = 3 + dice.nextInt(40);
        for (int call = 1; call < 512; call++) {
            if (dice.nextInt(busyness) < 2) {
                changeCall();
            } else if (dice.nextInt(4) == 0) {
                doSolve();
            } else {
                askCall();
            }
        }
    }

    private int around(int limit) {
        int pick = dice.nextInt(12);
        if (pick == 0) {
            return new int[] {-1, limit, limit + 1, Integer.MIN_VALUE, Integer.MAX_VALUE}[
                    dice.nextInt(5)];
        }
        return limit == 0 ? 0 : dice.nextInt(limit);
    }

    private long anyWeight() {
        if (dice.nextInt(10) == 0) {
            return new long[] {-1, MOST_WEIGHT, MOST_WEIGHT + 1, Long.MIN_VALUE, Long.MAX_VALUE}[
                    dice.nextInt(5)];
        }
        return weightWithin(dice.nextBoolean() ? 2 : 50);
    }

    private void changeCall() {
        int pick = dice.nextInt(40);
        if (pick == 0) {
            int n = dice.nextInt(4) == 0 ? dice.nextInt(30) - 2 : 2 + dice.nextInt(6);
            doNodes(n, around(Math.max(0, n)));
        } else if (pick < 26) {
            doArc(around(model.about(0)), around(model.about(0)), anyWeight());
        } else if (pick < 34) {
            doWeigh(around(model.about(1)), anyWeight());
        } else {
            doOpen(around(model.about(1)), dice.nextInt(3) > 0);
        }
    }

    private void askCall() {
        int node = around(model.about(0));
        int arc = around(model.about(1));
        int k = around(model.sets());
        switch (dice.nextInt(12)) {
            case 0: same("cost()", () -> x().cost(), model::cost); break;
            case 1: askInto(node); break;
            case 2: askReached(node); break;
            case 3: same("sets()", () -> x().sets(), model::sets); break;
            case 4: askSet(k, around(4)); break;
            case 5: askIn(k, node); break;
            case 6: askDual(k); break;
            case 7: askSlack(arc); break;
            case 8: askAbout(around(5)); break;
            case 9: askTold(arc, around(4)); break;
            case 10: askDepth(node); break;
            default: askFar(node); break;
        }
    }

    private void compareAll() {
        same("cost()", () -> x().cost(), model::cost);
        same("sets()", () -> x().sets(), model::sets);
        for (int what = -1; what <= 5; what++) {
            askAbout(what);
        }
        for (int node = -1; node <= model.about(0); node++) {
            askInto(node);
            askReached(node);
            askDepth(node);
            askFar(node);
        }
        for (int arc = -1; arc <= model.about(1); arc++) {
            askSlack(arc);
            for (int what = -1; what <= 4; what++) {
                askTold(arc, what);
            }
        }
        for (int k = -1; k <= model.sets(); k++) {
            askDual(k);
            for (int what = -1; what <= 4; what++) {
                askSet(k, what);
            }
            for (int node = -1; node <= model.about(0); node++) {
                askIn(k, node);
            }
        }
    }

    // ---- each call on both

    private void doNodes(int n, int root) {
        sameChange("nodes(" + n + ", " + root + ")",
                x -> { x.nodes(n, root); return 0; },
                () -> { model.nodes(n, root); return 0; });
    }

    private void doArc(int from, int to, long weight) {
        sameChange("arc(" + from + ", " + to + ", " + weight + ")",
                x -> x.arc(from, to, weight), () -> model.arc(from, to, weight));
    }

    private void doWeigh(int arc, long weight) {
        sameChange("weigh(" + arc + ", " + weight + ")",
                x -> x.weigh(arc, weight), () -> model.weigh(arc, weight));
    }

    private void doOpen(int arc, boolean is) {
        sameChange("open(" + arc + ", " + is + ")",
                x -> x.open(arc, is) ? 1 : 0, () -> model.open(arc, is) ? 1 : 0);
    }

    private void doSolve() {
        sameChange("solve()", TreeOfArcs::solve, model::solve);
    }

    private void askInto(int node) {
        same("into(" + node + ")", () -> x().into(node), () -> model.into(node));
    }

    private void askReached(int node) {
        same("isReached(" + node + ")",
                () -> x().isReached(node) ? 1 : 0, () -> model.isReached(node) ? 1 : 0);
    }

    private void askSet(int k, int what) {
        same("set(" + k + ", " + what + ")", () -> x().set(k, what), () -> model.set(k, what));
    }

    private void askIn(int k, int node) {
        same("isIn(" + k + ", " + node + ")",
                () -> x().isIn(k, node) ? 1 : 0, () -> model.isIn(k, node) ? 1 : 0);
    }

    private void askDual(int k) {
        same("dual(" + k + ")", () -> x().dual(k), () -> model.dual(k));
    }

    private void askSlack(int arc) {
        same("slack(" + arc + ")", () -> x().slack(arc), () -> model.slack(arc));
    }

    private void askAbout(int what) {
        same("about(" + what + ")", () -> x().about(what), () -> model.about(what));
    }

    private void askTold(int arc, int what) {
        same("told(" + arc + ", " + what + ")", () -> x().told(arc, what),
                () -> model.told(arc, what));
    }

    private void askDepth(int node) {
        same("depth(" + node + ")", () -> x().depth(node), () -> model.depth(node));
    }

    private void askFar(int node) {
        same("far(" + node + ")", () -> x().far(node), () -> model.far(node));
    }
}
