/** Promise 16: states. */
final class Promise16Test {
    private static final Check check = new Check("Promise16Test");

    private Promise16Test() {
    }

    private static void states(BranchTrees t, int x, int... due) {
        for (int site = 0; site < 4; site++) {
            check.due("states(" + x + ", " + site + ")", t.states(x, site), due[site]);
        }
    }

    private static void keeps(int leaves, int x, int site, int due) {
        check.keeps(leaves, "states(" + x + ", " + site + ")", t -> t.states(x, site), due);
    }

    private static void innerNodesHaveThoseOfBestAssignments() {
        BranchTrees t = Trees.five();
        states(t, 10, 1 + 4, 2, 1 + 4 + 8, 8);
        states(t, 8, 1, 2, 1 + 4 + 8, 8);
        states(t, 9, 1, 2, 8, 4);
        states(t, 11, 1, 2, 8, 4);
    }

    /** A leaf has its own state alone, dear or not, in the tree of one leaf and in larger ones. */
    private static void leavesHaveTheirOwn() {
        states(new BranchTrees(Trees.code("3201")), 0, 8, 4, 1, 2);
        for (int leaves = 1; leaves <= 7; leaves++) {
            for (int x = 0; x < leaves; x++) {
                for (int site = 0; site < 4; site++) {
                    int state = Trees.codeOf(x) >> 6 - 2 * site & 3;
                    keeps(leaves, x, site, 1 << state);
                }
            }
        }
    }

    /** The fullest set is 15, all four states, where all assignments cost the same. */
    private static void innerNodesCanHaveAll() {
        for (int leaves = 2; leaves <= 7; leaves++) {
            for (int cost : new int[] {0, 9}) {
                BranchTrees t = Trees.grown(leaves);
                Trees.setAllCosts(t, cost);
                for (int x = 8; x < 8 + leaves - 1; x++) {
                    states(t, x, 15, 15, 15, 15);
                }
                states(t, 0, 1, 2, 4, 8);
            }
        }
    }

    /** Of leaves all alike, each inner node has just their state: 1, 2, 4 and 8. */
    private static void innerNodesCanHaveOne() {
        BranchTrees t = new BranchTrees(Trees.code("0123"));
        for (int leaf = 1; leaf < 7; leaf++) {
            t.attach(leaf - 1, Trees.code("0123"));
        }
        for (int x = 8; x <= 13; x++) {
            states(t, x, 1, 2, 4, 8);
        }
    }

    private static void ofEveryGoodNodeAndSite() {
        for (int leaves = 1; leaves <= 7; leaves++) {
            Model m = Trees.grownModel(leaves);
            for (int x : Trees.goodNodes(leaves)) {
                for (int site = 0; site < 4; site++) {
                    keeps(leaves, x, site, m.states(x, site));
                }
            }
        }
    }

    /** "-1 if x is not good". */
    private static void ofNoNode() {
        for (int leaves = 1; leaves <= 7; leaves++) {
            for (int x : Trees.badNodes(leaves)) {
                keeps(leaves, x, 0, -1);
                keeps(leaves, x, 3, -1);
            }
        }
    }

    /** "-2 if site is not good". */
    private static void ofNoSite() {
        for (int site : Trees.NO_DIGITS) {
            keeps(1, 0, site, -2);
            for (int x : Trees.goodNodes(7)) {
                keeps(7, x, site, -2);
            }
        }
    }

    /** "the tests are made in the order named". */
    private static void inTheOrderNamed() {
        for (int site : Trees.NO_DIGITS) {
            keeps(1, 1, site, -1);
            keeps(1, 8, site, -1);
            for (int x : Trees.NO_NODES) {
                keeps(7, x, site, -1);
            }
        }
    }

    public static void main(String[] args) {
        innerNodesHaveThoseOfBestAssignments();
        leavesHaveTheirOwn();
        innerNodesCanHaveAll();
        innerNodesCanHaveOne();
        ofEveryGoodNodeAndSite();
        ofNoNode();
        ofNoSite();
        inTheOrderNamed();
        check.end();
    }
}
