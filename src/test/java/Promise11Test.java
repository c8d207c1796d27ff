/** Promise 11: leavesBelow. */
final class Promise11Test {
    private static final Check check = new Check("Promise11Test");

    private Promise11Test() {
    }

    private static void sets(BranchTrees t, int... due) {
        for (int x = 0; x < due.length; x++) {
            check.due("leavesBelow(" + x + ")", t.leavesBelow(x), due[x]);
        }
    }

    private static void set(int leaves, int x, int due) {
        check.keeps(leaves, "leavesBelow(" + x + ")", t -> t.leavesBelow(x), due);
    }

    private static void ofTreesAndAfterChanges() {
        sets(Trees.seven(), 1, 2, 4, 8, 16, 32, 64, -1, 127, 125, 121, 113, 97, 65);
        BranchTrees t = Trees.five();
        sets(t, 1, 2, 4, 8, 16, -1, -1, -1, 23, 22, 31, 20, -1, -1);
        t.swap(0, 11);
        sets(t, 1, 2, 4, 8, 16, -1, -1, -1, 23, 3, 31, 20, -1, -1);
        t.move(3, 1);
        sets(t, 1, 2, 4, 8, 16, -1, -1, -1, 31, 11, 10, 20, -1, -1);
    }

    /** "the leaves that are x": a leaf's set is itself, that of the last leaf the greatest. */
    private static void ofALeafItself() {
        for (int leaves = 1; leaves <= 7; leaves++) {
            for (int x = 0; x < leaves; x++) {
                set(leaves, x, 1 << x);
            }
        }
    }

    /** "or below it": all of them below the root, 1 in a tree of one leaf to 127 in one of seven. */
    private static void ofTheRoot() {
        int[] roots = {0, 0, 8, 8, 10, 10, 10, 10};
        for (int leaves = 1; leaves <= 7; leaves++) {
            set(leaves, roots[leaves], (1 << leaves) - 1);
        }
    }

    private static void ofInnerNodes() {
        set(7, 8, 127 - 8);
        set(7, 9, 2 + 4 + 16);
        set(7, 11, 4 + 16);
        set(7, 12, 2 + 4 + 16 + 32);
        set(7, 13, 1 + 64);
    }

    /** "-1 if x is not good". */
    private static void ofNoNode() {
        for (int leaves = 1; leaves <= 7; leaves++) {
            for (int x : Trees.badNodes(leaves)) {
                set(leaves, x, -1);
            }
        }
    }

    public static void main(String[] args) {
        ofTreesAndAfterChanges();
        ofALeafItself();
        ofTheRoot();
        ofInnerNodes();
        ofNoNode();
        check.end();
    }
}
