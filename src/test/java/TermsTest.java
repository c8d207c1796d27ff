/** The edges that the document's "Terms" name, each beside its words. */
final class TermsTest {
    private static final Check check = new Check("TermsTest");

    private TermsTest() {
    }

    /** "At first there is leaf 0, which is the root." */
    private static void atFirst() {
        BranchTrees t = new BranchTrees(0);
        check.due("leaves()", t.leaves(), 1);
        check.due("root()", t.root(), 0);
        check.same("parents", Trees.parents(t), "-2 -1 -1 -1 -1 -1 -1 -1 -1 -1 -1 -1 -1 -1");
    }

    /** "LEAVES are numbered 0, 1, 2, .. in the order in which they are made, at most 7". */
    private static void leavesAreNumberedInOrderAndAtMostSeven() {
        for (int leaves = 1; leaves <= 7; leaves++) {
            int answer = leaves == 7 ? -3 : leaves;
            check.answers(leaves, "attach(0, 0)", t -> t.attach(0, 0), answer);
            for (int leaf = 0; leaf < leaves; leaf++) {
                int x = leaf;
                check.keeps(leaves, "leavesBelow(" + x + ")", t -> t.leavesBelow(x), 1 << x);
            }
            for (int leaf = leaves; leaf <= 7; leaf++) {
                int x = leaf;
                check.keeps(leaves, "leavesBelow(" + x + ")", t -> t.leavesBelow(x), -1);
            }
        }
    }

    /** "INNER nodes are numbered 8, 9, .. in the order in which they are made." */
    private static void innerNodesAreNumberedInOrderFromEight() {
        BranchTrees t = new BranchTrees(0);
        for (int leaf = 1; leaf < 7; leaf++) {
            check.due("parent(" + (7 + leaf) + ") before it is made", t.parent(7 + leaf), -1);
            t.attach(leaf - 1, 0);
            check.due("parent(" + leaf + ")", t.parent(leaf), 7 + leaf);
            check.due("parent(" + (leaf - 1) + ")", t.parent(leaf - 1), 7 + leaf);
            // A moved inner node is the same one again, and takes no new number.
            t.move(leaf, t.root());
            check.due("parent(" + (8 + leaf) + ") after a move", t.parent(8 + leaf), -1);
        }
        check.due("parent(7) of seven leaves", t.parent(7), -1);
        check.due("parent(14) of seven leaves", t.parent(14), -1);
    }

    private static void hasTheShapeOfATree(BranchTrees t, String what) {
        int[] children = new int[14];
        int roots = 0;
        for (int node : Trees.goodNodes(t.leaves())) {
            int parent = t.parent(node);
            if (parent == -2) {
                roots++;
                check.due("root() " + what, t.root(), node);
            } else {
                children[parent]++;
            }
        }
        check.due("the number of roots " + what, roots, 1);
        for (int node : Trees.goodNodes(t.leaves())) {
            check.due("the number of children of " + node + " " + what, children[node], node < 8 ? 0 : 2);
        }
        check.due("the leaves below the root " + what, t.leavesBelow(t.root()), (1 << t.leaves()) - 1);
    }

    /** "Every inner node has just two children; there is one ROOT, the node without a parent." */
    private static void twoChildrenAndOneRoot() {
        for (int size = 1; size <= 7; size++) {
            int leaves = size;
            hasTheShapeOfATree(Trees.grown(leaves), "of " + leaves + " leaves");
            for (int x : Trees.goodNodes(leaves)) {
                BranchTrees grown = Trees.grown(leaves);
                grown.attach(x, 0);
                hasTheShapeOfATree(grown, "of " + leaves + " leaves, after attach(" + x + ", 0)");
                for (int y : Trees.goodNodes(leaves)) {
                    String pair = "(" + x + ", " + y + ")";
                    BranchTrees swapped = Trees.grown(leaves);
                    swapped.swap(x, y);
                    hasTheShapeOfATree(swapped, "of " + leaves + " leaves, after swap" + pair);
                    BranchTrees moved = Trees.grown(leaves);
                    moved.move(x, y);
                    hasTheShapeOfATree(moved, "of " + leaves + " leaves, after move" + pair);
                }
            }
        }
    }

    private static void hasStates(BranchTrees t, int leaf, String states) {
        for (int site = 0; site < 4; site++) {
            int due = 1 << (states.charAt(site) - '0');
            check.due("states(" + leaf + ", " + site + ") of " + states, t.states(leaf, site), due);
        }
    }

    /** "the number whose digits in base 4 are its states at the sites 0, 1, 2, 3, site 0 the first digit, 0 .. 255". */
    private static void siteZeroIsTheFirstDigit() {
        String[] written = {"0000", "0001", "0003", "0010", "0033", "0100", "0333", "1000", "3000", "3332", "3333"};
        int[] numbers = {0, 1, 3, 4, 15, 16, 63, 64, 192, 254, 255};
        for (int i = 0; i < numbers.length; i++) {
            BranchTrees made = new BranchTrees(numbers[i]);
            hasStates(made, 0, written[i]);
            made.attach(0, 255 - numbers[i]);
            made.attach(8, numbers[i]);
            hasStates(made, 2, written[i]);
            made.mutate(1, numbers[i]);
            hasStates(made, 1, written[i]);
        }
    }

    /** "at first it is 0 for the same state and 1 for different ones", and a rate "1 for all at first". */
    private static void costsAndRatesAtFirst() {
        BranchTrees t = new BranchTrees(0);
        for (int from = 0; from < 4; from++) {
            for (int to = 0; to < 4; to++) {
                check.due("cost(" + from + ", " + to + ", 9)", t.cost(from, to, 9), from == to ? 0 : 1);
                check.due("rate(" + from + ", " + to + ", 9)", t.rate(from, to, 9), 1);
            }
        }
    }

    /** "the sum, over all nodes but the root": nothing is summed, and nothing multiplied, in a tree of one leaf. */
    private static void theRootAloneHasNoChange() {
        for (int value = 0; value <= 9; value++) {
            BranchTrees t = new BranchTrees(Trees.code("0123"));
            Trees.setAllCosts(t, value);
            Trees.setAllRates(t, value);
            check.due("total(), costs " + value, t.total(), 0);
            for (int site = 0; site < 4; site++) {
                check.due("least(" + site + "), costs " + value, t.least(site), 0);
                check.due("ways(" + site + "), costs " + value, t.ways(site), 1);
                check.due("states(0, " + site + "), costs " + value, t.states(0, site), 1 << site);
                check.due("weight(" + site + "), rates " + value, t.weight(site), 1);
            }
        }
    }

    /** "AN ASSIGNMENT for a site gives every node a state, and every leaf its own", dear as it may be. */
    private static void everyLeafHasItsOwnState() {
        BranchTrees t = new BranchTrees(0);
        t.attach(0, 255);
        for (int from = 0; from < 4; from++) {
            t.cost(from, 0, 9);
            t.cost(from, 1, 0);
            t.cost(from, 2, 0);
            t.cost(from, 3, 9);
        }
        for (int site = 0; site < 4; site++) {
            check.due("least(" + site + ")", t.least(site), 18);
            check.due("ways(" + site + ")", t.ways(site), 4);
            check.due("states(0, " + site + ")", t.states(0, site), 1);
            check.due("states(1, " + site + ")", t.states(1, site), 8);
            check.due("states(8, " + site + ")", t.states(8, site), 15);
        }
    }

    /** "All weights fit into a long": the greatest of each number of leaves, past the greatest int from five on. */
    private static void theGreatestWeights() {
        long due = 1;
        for (int leaves = 1; leaves <= 7; leaves++) {
            BranchTrees t = Trees.grown(leaves);
            Trees.setAllRates(t, 9);
            for (int site = 0; site < 4; site++) {
                check.due("weight(" + site + ") of " + leaves + " leaves", t.weight(site), due);
            }
            // One more leaf: an inner node with four states, and two changes more.
            due *= 4 * 9 * 9;
        }
    }

    public static void main(String[] args) {
        atFirst();
        leavesAreNumberedInOrderAndAtMostSeven();
        innerNodesAreNumberedInOrderFromEight();
        twoChildrenAndOneRoot();
        siteZeroIsTheFirstDigit();
        costsAndRatesAtFirst();
        theRootAloneHasNoChange();
        everyLeafHasItsOwnState();
        theGreatestWeights();
        check.end();
    }
}
