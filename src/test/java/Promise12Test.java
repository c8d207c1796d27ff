/** Promise 12: meet. */
final class Promise12Test {
    private static final Check check = new Check("Promise12Test");

    private Promise12Test() {
    }

    private static void meet(BranchTrees t, int x, int y, int due) {
        check.due("meet(" + x + ", " + y + ")", t.meet(x, y), due);
        check.due("meet(" + y + ", " + x + ")", t.meet(y, x), due);
    }

    private static void ofFive() {
        BranchTrees t = Trees.five();
        String before = Trees.look(t);
        for (int x : new int[] {0, 1, 2, 3, 4, 8, 9, 10, 11}) {
            meet(t, x, x, x);
            meet(t, x, 10, 10);
        }
        meet(t, 2, 4, 11);
        meet(t, 1, 2, 9);
        meet(t, 1, 4, 9);
        meet(t, 0, 1, 8);
        meet(t, 0, 4, 8);
        meet(t, 0, 11, 8);
        meet(t, 3, 0, 10);
        meet(t, 3, 4, 10);
        meet(t, 3, 8, 10);
        meet(t, 9, 2, 9);
        meet(t, 8, 4, 8);
        meet(t, 11, 1, 9);
        meet(t, 11, 9, 9);
        check.same("all after questions", Trees.look(t), before);
        t.move(2, 0);
        meet(t, 2, 0, 11);
        meet(t, 2, 4, 8);
    }

    private static void ofTheDeepestTree() {
        BranchTrees t = Trees.seven();
        meet(t, 0, 6, 13);
        meet(t, 0, 1, 8);
        meet(t, 6, 5, 12);
        meet(t, 13, 2, 9);
        meet(t, 0, 8, 8);
    }

    private static void notGood() {
        BranchTrees t = Trees.five();
        for (int x : Trees.NO_NODES) {
            meet(t, x, 0, -1);
            meet(t, x, x, -1);
        }
        for (int x : new int[] {5, 6, 12, 13}) {
            meet(t, x, x, -1);
            meet(t, 10, x, -1);
        }
        meet(new BranchTrees(0), 0, 0, 0);
        meet(new BranchTrees(0), 0, 8, -1);
    }

    public static void main(String[] args) {
        ofFive();
        ofTheDeepestTree();
        notGood();
        check.end();
    }
}
