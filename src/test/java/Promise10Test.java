/** Promise 10: parent. */
final class Promise10Test {
    private static final Check check = new Check("Promise10Test");
    /** The parents of the nodes of Trees.grown(..), at the index of its leaves. */
    private static final String[] PARENTS = {
        "",
        "-2 -1 -1 -1 -1 -1 -1 -1 -1 -1 -1 -1 -1 -1",
        "8 8 -1 -1 -1 -1 -1 -1 -2 -1 -1 -1 -1 -1",
        "8 9 9 -1 -1 -1 -1 -1 -2 8 -1 -1 -1 -1",
        "8 9 9 10 -1 -1 -1 -1 10 8 -2 -1 -1 -1",
        "8 9 11 10 11 -1 -1 -1 10 8 -2 9 -1 -1",
        "8 9 11 10 11 12 -1 -1 10 12 -2 9 8 -1",
        "13 9 11 10 11 12 13 -1 10 12 -2 9 8 8",
    };

    private Promise10Test() {
    }

    private static void parent(int leaves, int x, int due) {
        check.keeps(leaves, "parent(" + x + ")", t -> t.parent(x), due);
    }

    /** "The parent of a node", the first, the last and every other; "-2 for the root", leaf 0 when it is alone. */
    private static void ofEveryGoodNode() {
        for (int leaves = 1; leaves <= 7; leaves++) {
            String[] due = PARENTS[leaves].split(" ");
            for (int x : Trees.goodNodes(leaves)) {
                parent(leaves, x, Integer.parseInt(due[x]));
            }
        }
        check.same("the deepest tree", Trees.parents(Trees.seven()), "13 8 9 10 11 12 13 -1 -2 8 9 10 11 12");
    }

    /** "-1 if x is not good". */
    private static void ofNoNode() {
        for (int leaves = 1; leaves <= 7; leaves++) {
            for (int x : Trees.badNodes(leaves)) {
                parent(leaves, x, -1);
            }
        }
    }

    /** "-2 for the root", which is another node after a move. */
    private static void ofAnotherRoot() {
        BranchTrees t = Trees.five();
        t.move(2, 10);
        check.due("parent(11) after move(2, 10)", t.parent(11), -2);
        check.due("parent(10) after move(2, 10)", t.parent(10), 11);
    }

    public static void main(String[] args) {
        ofEveryGoodNode();
        ofNoNode();
        ofAnotherRoot();
        check.end();
    }
}
