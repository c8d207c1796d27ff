/** Promise 17: weight. */
final class Promise17Test {
    private static final Check check = new Check("Promise17Test");

    private Promise17Test() {
    }

    private static void weights(BranchTrees t, long... due) {
        for (int site = 0; site < 4; site++) {
            check.due("weight(" + site + ")", t.weight(site), due[site]);
        }
    }

    private static void countsAllAssignmentsAtFirst() {
        BranchTrees t = Trees.five();
        weights(t, 256, 256, 256, 256);
        t.cost(0, 1, 9);
        weights(t, 256, 256, 256, 256);
    }

    /** 8( 0, 9( 1, 2 ) ), where site 0 is 0, 1, 1 and only one path of changes has a rate. */
    private static void goesDownFromTheRoot() {
        BranchTrees t = new BranchTrees(Trees.code("0000"));
        t.attach(0, Trees.code("1000"));
        t.attach(1, Trees.code("1000"));
        Trees.setAllRates(t, 0);
        t.rate(2, 0, 3);
        t.rate(2, 3, 5);
        t.rate(3, 1, 2);
        weights(t, 3 * 5 * 2 * 2, 0, 0, 0);
        // A second path, with the root and node 9 both in state 2.
        t.rate(2, 2, 7);
        t.rate(2, 1, 4);
        weights(t, 60 + 3 * 7 * 4 * 4, 3 * 7 * 3 * 3, 189, 189);
    }

    /** A tree of one leaf has one assignment without a change: its weight is 1, whatever the rates are. */
    private static void ofOneLeaf() {
        BranchTrees t = new BranchTrees(Trees.code("0123"));
        weights(t, 1, 1, 1, 1);
        Trees.setAllRates(t, 0);
        weights(t, 1, 1, 1, 1);
        Trees.setAllRates(t, 9);
        weights(t, 1, 1, 1, 1);
    }

    /** The least there can be, and the greatest, which past four leaves no int could hold. */
    private static void theLightestAndTheHeaviestTree() {
        long[] most = {1, 1, 324, 104976, 34012224, 11019960576L, 3570467226624L, 1156831381426176L};
        for (int leaves = 2; leaves <= 7; leaves++) {
            BranchTrees t = Trees.grown(leaves);
            Trees.setAllRates(t, 0);
            weights(t, 0, 0, 0, 0);
            Trees.setAllRates(t, 9);
            weights(t, most[leaves], most[leaves], most[leaves], most[leaves]);
        }
    }

    /** The first site and the last are still good, and change nothing. */
    private static void ofTheFirstAndTheLastSite() {
        for (int leaves = 1; leaves <= 7; leaves++) {
            Model m = Trees.grownModel(leaves);
            for (int number = 0; number < 4; number++) {
                int site = number;
                check.keeps(leaves, "weight(" + site + ")", t -> t.weight(site), m.weight(site));
            }
        }
    }

    /** "-1 if site is not good". */
    private static void ofNoSite() {
        for (int leaves = 1; leaves <= 7; leaves++) {
            for (int site : Trees.NO_DIGITS) {
                check.keeps(leaves, "weight(" + site + ")", t -> t.weight(site), -1);
            }
        }
    }

    public static void main(String[] args) {
        countsAllAssignmentsAtFirst();
        goesDownFromTheRoot();
        ofOneLeaf();
        theLightestAndTheHeaviestTree();
        ofTheFirstAndTheLastSite();
        ofNoSite();
        check.end();
    }
}
