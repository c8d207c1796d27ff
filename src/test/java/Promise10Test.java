/** Promise 10: parent. */
final class Promise10Test {
    private static final Check check = new Check("Promise10Test");

    private Promise10Test() {
    }

    private static void parents(BranchTrees t, int[] due) {
        for (int x = 0; x < due.length; x++) {
            check.due("parent(" + x + ")", t.parent(x), due[x]);
        }
    }

    public static void main(String[] args) {
        parents(new BranchTrees(0), new int[] {-2, -1, -1, -1, -1, -1, -1, -1, -1, -1, -1, -1, -1, -1});
        parents(Trees.five(), new int[] {8, 9, 11, 10, 11, -1, -1, -1, 10, 8, -2, 9, -1, -1});
        parents(Trees.seven(), new int[] {13, 8, 9, 10, 11, 12, 13, -1, -2, 8, 9, 10, 11, 12});
        BranchTrees t = Trees.five();
        String before = Trees.look(t);
        for (int x : Trees.NO_NODES) {
            check.due("parent(" + x + ")", t.parent(x), -1);
        }
        check.same("all after questions", Trees.look(t), before);
        check.end();
    }
}
