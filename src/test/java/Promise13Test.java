/** Promise 13: least. */
final class Promise13Test {
    private static final Check check = new Check("Promise13Test");

    private Promise13Test() {
    }

    private static void least(BranchTrees t, int... due) {
        for (int site = 0; site < 4; site++) {
            check.due("least(" + site + ")", t.least(site), due[site]);
        }
    }

    private static void ofOneAndTwoLeaves() {
        BranchTrees t = new BranchTrees(Trees.code("0123"));
        least(t, 0, 0, 0, 0);
        Trees.setAllCosts(t, 9);
        least(t, 0, 0, 0, 0);
        t.attach(0, 0);
        least(t, 18, 18, 18, 18);
        BranchTrees two = new BranchTrees(Trees.code("0123"));
        two.attach(0, Trees.code("0213"));
        least(two, 0, 1, 1, 0);
    }

    private static void ofFive() {
        BranchTrees t = Trees.five();
        String before = Trees.look(t);
        least(t, 3, 2, 3, 2);
        for (int site : Trees.NO_DIGITS) {
            check.due("least(" + site + ")", t.least(site), -1);
        }
        check.same("all after questions", Trees.look(t), before);
        t.mutate(3, Trees.code("0000"));
        least(t, 2, 3, 3, 3);
        // Leaf 2, which differs from leaf 4, goes where it has its like.
        t.mutate(3, Trees.code("3210"));
        t.move(2, 3);
        least(t, 2, 2, 2, 2);
    }

    private static void theDearestTree() {
        BranchTrees t = Trees.seven();
        Trees.setAllCosts(t, 9);
        least(t, 108, 108, 108, 108);
        Trees.setAllCosts(t, 0);
        least(t, 0, 0, 0, 0);
    }

    public static void main(String[] args) {
        ofOneAndTwoLeaves();
        ofFive();
        theDearestTree();
        check.end();
    }
}
