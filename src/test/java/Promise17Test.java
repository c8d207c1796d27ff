/** Promise 17: weight. */
final class Promise17Test {
    private static final Check check = new Check("Promise17Test");

    private Promise17Test() {
    }

    private static void weights(BranchTrees t, long... due) {
        for (int site = 0; site < 4; site++) {
            check.due("weight(" + site + ")", t.weight(site), due[site]);
        }
    }

    private static void ofOneLeaf() {
        BranchTrees t = new BranchTrees(Trees.code("0123"));
        weights(t, 1, 1, 1, 1);
        Trees.setAllRates(t, 0);
        weights(t, 1, 1, 1, 1);
        t.attach(0, 0);
        weights(t, 0, 0, 0, 0);
    }

    private static void countsAllAssignmentsAtFirst() {
        BranchTrees t = Trees.five();
        String before = Trees.look(t);
        weights(t, 256, 256, 256, 256);
        for (int site : Trees.NO_DIGITS) {
            check.due("weight(" + site + ")", t.weight(site), -1);
        }
        check.same("all after questions", Trees.look(t), before);
        t.cost(0, 1, 9);
        weights(t, 256, 256, 256, 256);
    }

    /** 8( 0, 9( 1, 2 ) ), where site 0 is 0, 1, 1 and only one path of changes has a rate. */
    private static void goesDownFromTheRoot() {
        BranchTrees t = new BranchTrees(Trees.code("0000"));
        t.attach(0, Trees.code("1000"));
        t.attach(1, Trees.code("1000"));
        Trees.setAllRates(t, 0);
        t.rate(2, 0, 3);
        t.rate(2, 3, 5);
        t.rate(3, 1, 2);
        weights(t, 3 * 5 * 2 * 2, 0, 0, 0);
        // A second path, with the root and node 9 both in state 2.
        t.rate(2, 2, 7);
        t.rate(2, 1, 4);
        weights(t, 60 + 3 * 7 * 4 * 4, 3 * 7 * 3 * 3, 189, 189);
    }

    private static void theHeaviestTree() {
        BranchTrees t = Trees.seven();
        Trees.setAllRates(t, 9);
        long most = 1156831381426176L;
        weights(t, most, most, most, most);
    }

    public static void main(String[] args) {
        ofOneLeaf();
        countsAllAssignmentsAtFirst();
        goesDownFromTheRoot();
        theHeaviestTree();
        check.end();
    }
}
