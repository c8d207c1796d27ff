/** Promise 12: meet. */
final class Promise12Test {
    private static final Check check = new Check("Promise12Test");

    private Promise12Test() {
    }

    private static void meet(BranchTrees t, int x, int y, int due) {
        check.due("meet(" + x + ", " + y + ")", t.meet(x, y), due);
        check.due("meet(" + y + ", " + x + ")", t.meet(y, x), due);
    }

    private static void keeps(int leaves, int x, int y, int due) {
        check.keeps(leaves, "meet(" + x + ", " + y + ")", t -> t.meet(x, y), due);
        check.keeps(leaves, "meet(" + y + ", " + x + ")", t -> t.meet(y, x), due);
    }

    private static void ofFive() {
        BranchTrees t = Trees.five();
        meet(t, 2, 4, 11);
        meet(t, 1, 2, 9);
        meet(t, 1, 4, 9);
        meet(t, 0, 1, 8);
        meet(t, 0, 4, 8);
        meet(t, 0, 11, 8);
        meet(t, 3, 0, 10);
        meet(t, 3, 4, 10);
        meet(t, 3, 8, 10);
        meet(t, 11, 1, 9);
        t.move(2, 0);
        meet(t, 2, 0, 11);
        meet(t, 2, 4, 8);
    }

    private static void ofTheDeepestTree() {
        BranchTrees t = Trees.seven();
        meet(t, 0, 6, 13);
        meet(t, 0, 1, 8);
        meet(t, 6, 1, 8);
        meet(t, 6, 5, 12);
        meet(t, 13, 2, 9);
        meet(t, 0, 8, 8);
    }

    /** "The lowest node that is x .. and y": a node meets itself in itself, in the tree of one leaf too. */
    private static void theSame() {
        for (int leaves = 1; leaves <= 7; leaves++) {
            for (int x : Trees.goodNodes(leaves)) {
                keeps(leaves, x, x, x);
            }
        }
    }

    /** "that is x or above it and y or above it": a node meets one above it in that one. */
    private static void theOneAboveTheOther() {
        int[][] waysUp = {{0, 13, 8, 10}, {6, 13, 8, 10}, {2, 11, 9, 12, 8, 10}, {4, 11, 9, 12, 8, 10},
            {1, 9, 12, 8, 10}, {5, 12, 8, 10}, {3, 10}};
        for (int[] way : waysUp) {
            for (int low = 0; low < way.length; low++) {
                for (int high = low + 1; high < way.length; high++) {
                    keeps(7, way[low], way[high], way[high]);
                }
            }
        }
        keeps(2, 0, 8, 8);
        keeps(2, 1, 8, 8);
    }

    /** "The lowest node": the parent of siblings, and the root only where nothing lower is above both. */
    private static void theLowest() {
        keeps(2, 0, 1, 8);
        keeps(7, 2, 4, 11);
        keeps(7, 1, 11, 9);
        keeps(7, 2, 1, 9);
        keeps(7, 4, 5, 12);
        keeps(7, 9, 5, 12);
        keeps(7, 6, 2, 8);
        keeps(7, 13, 12, 8);
        keeps(7, 0, 6, 13);
        keeps(7, 8, 3, 10);
        keeps(7, 4, 3, 10);
    }

    /** "-1 if x or y is not good": the one, the other, and both. */
    private static void noNode() {
        for (int leaves = 1; leaves <= 7; leaves++) {
            int lastNode = leaves == 1 ? 0 : 8 + leaves - 2;
            for (int x : Trees.badNodes(leaves)) {
                keeps(leaves, x, 0, -1);
                keeps(leaves, x, lastNode, -1);
                keeps(leaves, x, x, -1);
                keeps(leaves, x, 7, -1);
            }
        }
    }

    public static void main(String[] args) {
        ofFive();
        ofTheDeepestTree();
        theSame();
        theOneAboveTheOther();
        theLowest();
        noNode();
        check.end();
    }
}
