/** Promise 15: ways. */
final class Promise15Test {
    private static final Check check = new Check("Promise15Test");

    private Promise15Test() {
    }

    private static void ways(BranchTrees t, int... due) {
        for (int site = 0; site < 4; site++) {
            check.due("ways(" + site + ")", t.ways(site), due[site]);
        }
    }

    private static void ofTwoLeaves() {
        BranchTrees t = new BranchTrees(Trees.code("0123"));
        t.attach(0, Trees.code("0213"));
        ways(t, 1, 2, 2, 1);
        t.cost(1, 2, 2);
        ways(t, 1, 1, 1, 1);
        t.cost(2, 1, 2);
        // Now every state of the root comes to 2 where the leaves are 1 and 2.
        ways(t, 1, 4, 4, 1);
    }

    private static void ofFive() {
        ways(Trees.five(), 2, 1, 5, 1);
    }

    /** A tree of one leaf has one assignment, and that is best, whatever the costs are. */
    private static void ofOneLeaf() {
        BranchTrees t = new BranchTrees(Trees.code("0123"));
        ways(t, 1, 1, 1, 1);
        Trees.setAllCosts(t, 9);
        ways(t, 1, 1, 1, 1);
        Trees.setAllCosts(t, 0);
        ways(t, 1, 1, 1, 1);
    }

    /** The most there can be: all assignments, where they all cost the same, least or dearest. */
    private static void whereAllAssignmentsAreBest() {
        for (int leaves = 1; leaves <= 7; leaves++) {
            int most = 1 << 2 * (leaves - 1);
            BranchTrees t = Trees.grown(leaves);
            Trees.setAllCosts(t, 9);
            ways(t, most, most, most, most);
            Trees.setAllCosts(t, 0);
            ways(t, most, most, most, most);
        }
    }

    /** The least there can be: leaves all alike in a tree of seven have one best assignment. */
    private static void whereOneIsBest() {
        BranchTrees t = new BranchTrees(255);
        for (int leaf = 1; leaf < 7; leaf++) {
            t.attach(leaf - 1, 255);
        }
        ways(t, 1, 1, 1, 1);
    }

    /** The first site and the last are still good, and change nothing. */
    private static void ofTheFirstAndTheLastSite() {
        for (int leaves = 1; leaves <= 7; leaves++) {
            Model m = Trees.grownModel(leaves);
            for (int number = 0; number < 4; number++) {
                int site = number;
                check.keeps(leaves, "ways(" + site + ")", t -> t.ways(site), m.ways(site));
            }
        }
    }

    /** "-1 if site is not good". */
    private static void ofNoSite() {
        for (int leaves = 1; leaves <= 7; leaves++) {
            for (int site : Trees.NO_DIGITS) {
                check.keeps(leaves, "ways(" + site + ")", t -> t.ways(site), -1);
            }
        }
    }

    public static void main(String[] args) {
        ofTwoLeaves();
        ofFive();
        ofOneLeaf();
        whereAllAssignmentsAreBest();
        whereOneIsBest();
        ofTheFirstAndTheLastSite();
        ofNoSite();
        check.end();
    }
}
