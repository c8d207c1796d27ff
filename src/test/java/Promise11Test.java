/** Promise 11: leavesBelow. */
final class Promise11Test {
    private static final Check check = new Check("Promise11Test");

    private Promise11Test() {
    }

    private static void sets(BranchTrees t, int[] due) {
        for (int x = 0; x < due.length; x++) {
            check.due("leavesBelow(" + x + ")", t.leavesBelow(x), due[x]);
        }
    }

    public static void main(String[] args) {
        sets(new BranchTrees(0), new int[] {1, -1, -1, -1, -1, -1, -1, -1, -1, -1, -1, -1, -1, -1});
        sets(Trees.seven(), new int[] {1, 2, 4, 8, 16, 32, 64, -1, 127, 125, 121, 113, 97, 65});
        BranchTrees t = Trees.five();
        String before = Trees.look(t);
        sets(t, new int[] {1, 2, 4, 8, 16, -1, -1, -1, 23, 22, 31, 20, -1, -1});
        for (int x : Trees.NO_NODES) {
            check.due("leavesBelow(" + x + ")", t.leavesBelow(x), -1);
        }
        check.same("all after questions", Trees.look(t), before);
        t.swap(0, 11);
        sets(t, new int[] {1, 2, 4, 8, 16, -1, -1, -1, 23, 3, 31, 20, -1, -1});
        t.move(3, 1);
        sets(t, new int[] {1, 2, 4, 8, 16, -1, -1, -1, 31, 11, 10, 20, -1, -1});
        check.end();
    }
}
