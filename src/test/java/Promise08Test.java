/** Promise 8: leaves. */
final class Promise08Test {
    private static final Check check = new Check("Promise08Test");

    private Promise08Test() {
    }

    public static void main(String[] args) {
        BranchTrees t = new BranchTrees(0);
        check.due("leaves() at first", t.leaves(), 1);
        for (int leaf = 1; leaf < 7; leaf++) {
            t.attach(leaf - 1, leaf);
            check.due("leaves() after attach", t.leaves(), leaf + 1);
            t.attach(7, 0);
            t.attach(0, 256);
            check.due("leaves() after refused attaches", t.leaves(), leaf + 1);
        }
        t.attach(0, 0);
        t.swap(0, 6);
        t.move(2, 8);
        t.mutate(3, 3);
        check.due("leaves() after other changes", t.leaves(), 7);
        String before = Trees.look(t);
        t.leaves();
        check.same("all after the question", Trees.look(t), before);
        check.end();
    }
}
