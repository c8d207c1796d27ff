/** Promise 9: root. */
final class Promise09Test {
    private static final Check check = new Check("Promise09Test");

    private Promise09Test() {
    }

    public static void main(String[] args) {
        BranchTrees t = new BranchTrees(0);
        check.due("root() at first", t.root(), 0);
        t.attach(0, 1);
        check.due("root() after attach beside leaf 0", t.root(), 8);
        t.attach(0, 2);
        check.due("root() after attach below it", t.root(), 8);
        t.attach(8, 3);
        check.due("root() after attach beside the root", t.root(), 10);
        t.swap(0, 3);
        check.due("root() after swap", t.root(), 10);
        t.move(1, 10);
        check.due("root() after move beside the root", t.root(), 8);
        t.move(1, 2);
        check.due("root() after its child moves away", t.root(), 10);
        String before = Trees.look(t);
        t.root();
        check.same("all after the question", Trees.look(t), before);

        BranchTrees deep = Trees.seven();
        check.due("root() six above leaf 0", deep.root(), 8);
        check.end();
    }
}
