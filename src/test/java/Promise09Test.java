/** Promise 9: root. */
final class Promise09Test {
    private static final Check check = new Check("Promise09Test");

    private Promise09Test() {
    }

    private static void afterChanges() {
        BranchTrees t = new BranchTrees(0);
        check.due("root() at first", t.root(), 0);
        t.attach(0, 1);
        check.due("root() after attach beside leaf 0", t.root(), 8);
        t.attach(0, 2);
        check.due("root() after attach below it", t.root(), 8);
        t.attach(8, 3);
        check.due("root() after attach beside the root", t.root(), 10);
        t.swap(0, 3);
        check.due("root() after swap", t.root(), 10);
        t.move(1, 10);
        check.due("root() after move beside the root", t.root(), 8);
        t.move(1, 2);
        check.due("root() after its child moves away", t.root(), 10);
    }

    /** From leaf 0, the root of a tree of one leaf, to the tree of seven. */
    private static void ofEveryNumberOfLeaves() {
        int[] roots = {0, 0, 8, 8, 10, 10, 10, 10};
        for (int leaves = 1; leaves <= 7; leaves++) {
            check.keeps(leaves, "root()", t -> t.root(), roots[leaves]);
        }
    }

    /** Each inner node, the first and the last among them, can be the root. */
    private static void everyInnerNode() {
        for (int leaf = 1; leaf < 7; leaf++) {
            BranchTrees t = Trees.seven();
            t.move(leaf, t.root());
            // The parent of leaf 1 is the root, beside which leaf 1 can't move.
            check.due("root() after move(" + leaf + ", 8)", t.root(), leaf == 1 ? 8 : 7 + leaf);
        }
    }

    private static void sixAboveALeaf() {
        BranchTrees deep = Trees.seven();
        check.due("root() six above leaf 0", deep.root(), 8);
        BranchTrees high = new BranchTrees(0);
        for (int leaf = 1; leaf < 7; leaf++) {
            high.attach(high.root(), 0);
            check.due("root() over " + leaf + " inner nodes", high.root(), 7 + leaf);
        }
    }

    public static void main(String[] args) {
        afterChanges();
        ofEveryNumberOfLeaves();
        everyInnerNode();
        sixAboveALeaf();
        check.end();
    }
}
