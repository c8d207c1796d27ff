/** Promise 13: least. */
final class Promise13Test {
    private static final Check check = new Check("Promise13Test");

    private Promise13Test() {
    }

    private static void least(BranchTrees t, int... due) {
        for (int site = 0; site < 4; site++) {
            check.due("least(" + site + ")", t.least(site), due[site]);
        }
    }

    private static void ofTwoLeaves() {
        BranchTrees two = new BranchTrees(Trees.code("0123"));
        two.attach(0, Trees.code("0213"));
        least(two, 0, 1, 1, 0);
    }

    private static void ofFive() {
        BranchTrees t = Trees.five();
        least(t, 3, 2, 3, 2);
        t.mutate(3, Trees.code("0000"));
        least(t, 2, 3, 3, 3);
        // Leaf 2, which differs from leaf 4, goes where it has its like.
        t.mutate(3, Trees.code("3210"));
        t.move(2, 3);
        least(t, 2, 2, 2, 2);
    }

    /** A tree of one leaf has no change, and so no cost. */
    private static void ofOneLeaf() {
        BranchTrees t = new BranchTrees(Trees.code("0123"));
        least(t, 0, 0, 0, 0);
        Trees.setAllCosts(t, 9);
        least(t, 0, 0, 0, 0);
        t.attach(0, 0);
        least(t, 18, 18, 18, 18);
    }

    /** The least and the greatest cost there can be: 12 changes in a tree of seven leaves, of 0 or of 9 each. */
    private static void theCheapestAndTheDearestTree() {
        for (int leaves = 1; leaves <= 7; leaves++) {
            int most = 9 * 2 * (leaves - 1);
            BranchTrees t = Trees.grown(leaves);
            Trees.setAllCosts(t, 9);
            least(t, most, most, most, most);
            Trees.setAllCosts(t, 0);
            least(t, 0, 0, 0, 0);
        }
    }

    /** Of two trees unlike at each site: the first site and the last are still good, and change nothing. */
    private static void ofTheFirstAndTheLastSite() {
        for (int leaf = 0; leaf < 4; leaf++) {
            BranchTrees t = new BranchTrees(0);
            t.attach(0, 1 << 6 - 2 * leaf);
            for (int site = 0; site < 4; site++) {
                check.due("least(" + site + "), unlike at " + leaf, t.least(site), site == leaf ? 1 : 0);
            }
        }
        for (int leaves = 1; leaves <= 7; leaves++) {
            Model m = Trees.grownModel(leaves);
            for (int number = 0; number < 4; number++) {
                int site = number;
                check.keeps(leaves, "least(" + site + ")", t -> t.least(site), m.least(site));
            }
        }
    }

    /** "-1 if site is not good". */
    private static void ofNoSite() {
        for (int leaves = 1; leaves <= 7; leaves++) {
            for (int site : Trees.NO_DIGITS) {
                check.keeps(leaves, "least(" + site + ")", t -> t.least(site), -1);
            }
        }
    }

    public static void main(String[] args) {
        ofTwoLeaves();
        ofFive();
        ofOneLeaf();
        theCheapestAndTheDearestTree();
        ofTheFirstAndTheLastSite();
        ofNoSite();
        check.end();
    }
}
