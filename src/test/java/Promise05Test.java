/** Promise 5: move. */
final class Promise05Test {
    private static final Check check = new Check("Promise05Test");

    private Promise05Test() {
    }

    private static void moved(int x, int y, int root, String parents) {
        BranchTrees t = Trees.five();
        check.due("move(" + x + ", " + y + ")", t.move(x, y), 0);
        check.due("root() after move(" + x + ", " + y + ")", t.root(), root);
        check.due("leaves() after move(" + x + ", " + y + ")", t.leaves(), 5);
        check.same("parents after move(" + x + ", " + y + ")", Trees.parents(t), parents);
    }

    private static void keeps(int leaves, int x, int y, int due) {
        check.keeps(leaves, "move(" + x + ", " + y + ")", t -> t.move(x, y), due);
    }

    /** The parent's parent, which is not refused, and nodes of other kinds. */
    private static void besideNodesOfAllKinds() {
        moved(2, 0, 10, "11 9 11 10 9 -1 -1 -1 10 8 -2 8 -1 -1");
        moved(2, 9, 10, "8 9 11 10 9 -1 -1 -1 10 11 -2 8 -1 -1");
        moved(9, 3, 10, "10 9 11 8 11 -1 -1 -1 10 8 -2 9 -1 -1");
    }

    /** "p takes the place of y", the root's. */
    private static void besideTheRoot() {
        moved(2, 10, 11, "8 9 11 10 9 -1 -1 -1 10 8 11 -2 -1 -1");
        moved(9, 10, 8, "10 9 11 10 11 -1 -1 -1 -2 8 8 9 -1 -1");
    }

    /** "x's parent p is taken out (its other child takes its place)", as the root. */
    private static void takingOutTheRoot() {
        moved(3, 1, 8, "8 10 11 10 11 -1 -1 -1 -2 8 9 9 -1 -1");
        moved(3, 9, 8, "8 9 11 10 11 -1 -1 -1 -2 10 8 9 -1 -1");
        moved(3, 0, 8, "10 9 11 10 11 -1 -1 -1 -2 8 8 9 -1 -1");
    }

    /**
     * "-3 if y is x, below x, or x's parent; otherwise 0": x's sibling is none of these. p comes back to its place,
     * and all is as before.
     */
    private static void besideTheSibling() {
        int[][] siblings = {{8, 3}, {13, 12}, {0, 6}, {9, 5}, {1, 11}, {2, 4}};
        for (int[] pair : siblings) {
            keeps(7, pair[0], pair[1], 0);
            keeps(7, pair[1], pair[0], 0);
        }
        keeps(2, 0, 1, 0);
        keeps(2, 1, 0, 0);
    }

    /** "-1 if x or y is not good": the one, the other, and both. */
    private static void noNode() {
        for (int leaves = 1; leaves <= 7; leaves++) {
            int lastNode = leaves == 1 ? 0 : 8 + leaves - 2;
            for (int x : Trees.badNodes(leaves)) {
                keeps(leaves, x, 0, -1);
                keeps(leaves, 0, x, -1);
                keeps(leaves, x, lastNode, -1);
                keeps(leaves, lastNode, x, -1);
                keeps(leaves, x, x, -1);
            }
        }
    }

    /** "-2 if x is the root", whatever good node y is. */
    private static void theRoot() {
        int[] roots = {0, 0, 8, 8, 10, 10, 10, 10};
        for (int leaves = 1; leaves <= 7; leaves++) {
            for (int y : Trees.goodNodes(leaves)) {
                keeps(leaves, roots[leaves], y, -2);
            }
        }
    }

    /** "-3 if y is x". */
    private static void besideItself() {
        for (int x : new int[] {0, 1, 2, 3, 4, 5, 6, 8, 9, 11, 12, 13}) {
            keeps(7, x, x, -3);
        }
        keeps(2, 0, 0, -3);
        keeps(2, 1, 1, -3);
    }

    /** "-3 if y is .. below x": its children, theirs, and so on. */
    private static void besideOneBelow() {
        for (int y : new int[] {13, 0, 6, 12, 9, 1, 11, 2, 4, 5}) {
            keeps(7, 8, y, -3);
        }
        for (int y : new int[] {9, 1, 11, 2, 4, 5}) {
            keeps(7, 12, y, -3);
        }
        keeps(7, 11, 2, -3);
        keeps(7, 11, 4, -3);
        for (int y : new int[] {10, 11, 12, 13, 0, 6, 5, 4, 3, 2}) {
            BranchTrees t = Trees.seven();
            String before = Trees.look(t);
            check.due("move(9, " + y + ")", t.move(9, y), -3);
            check.same("all after the refusal", Trees.look(t), before);
        }
    }

    /** "-3 if y is .. x's parent", the root or another one; the parent's parent is good. */
    private static void besideItsParent() {
        int[][] parents = {{8, 10}, {3, 10}, {13, 8}, {12, 8}, {0, 13}, {6, 13}, {9, 12}, {5, 12}, {1, 9}, {11, 9},
            {2, 11}, {4, 11}};
        for (int[] pair : parents) {
            keeps(7, pair[0], pair[1], -3);
        }
        keeps(2, 0, 8, -3);
        keeps(2, 1, 8, -3);
        int[][] grandparents = {{13, 10}, {12, 10}, {0, 8}, {6, 8}, {9, 8}, {5, 8}, {1, 12}, {11, 12}, {2, 9}, {4, 9}};
        for (int[] pair : grandparents) {
            BranchTrees t = Trees.grown(7);
            int p = t.parent(pair[0]);
            check.due("move(" + pair[0] + ", " + pair[1] + ")", t.move(pair[0], pair[1]), 0);
            check.due("parent(" + pair[0] + ")", t.parent(pair[0]), p);
            check.due("parent(" + pair[1] + ")", t.parent(pair[1]), p);
        }
    }

    /** "the tests are made in the order named": the root comes after no node, and before x itself and below x. */
    private static void inTheOrderNamed() {
        keeps(1, 0, 1, -1);
        keeps(1, 0, 0, -2);
        keeps(5, 10, 5, -1);
        keeps(5, 10, 12, -1);
        keeps(7, 10, 7, -1);
        keeps(7, 10, 14, -1);
        keeps(7, 10, 10, -2);
        keeps(7, 10, 8, -2);
    }

    public static void main(String[] args) {
        besideNodesOfAllKinds();
        besideTheRoot();
        takingOutTheRoot();
        besideTheSibling();
        noNode();
        theRoot();
        besideItself();
        besideOneBelow();
        besideItsParent();
        inTheOrderNamed();
        check.end();
    }
}
