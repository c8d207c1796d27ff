/** Promise 8: leaves. */
final class Promise08Test {
    private static final Check check = new Check("Promise08Test");

    private Promise08Test() {
    }

    /** "How many leaves there are": from one, of a new object, to seven. */
    private static void fromOneToSeven() {
        check.due("leaves() at first", new BranchTrees(0).leaves(), 1);
        for (int leaves = 1; leaves <= 7; leaves++) {
            check.keeps(leaves, "leaves()", t -> t.leaves(), leaves);
        }
    }

    private static void notMoreByARefusedAttach() {
        for (int leaves = 1; leaves <= 7; leaves++) {
            BranchTrees t = Trees.grown(leaves);
            t.attach(7, 0);
            t.attach(0, 256);
            check.due("leaves() after refused attaches", t.leaves(), leaves);
        }
        BranchTrees full = Trees.grown(7);
        full.attach(0, 0);
        check.due("leaves() after an eighth leaf is refused", full.leaves(), 7);
    }

    private static void notMoreByOtherChanges() {
        BranchTrees t = Trees.grown(7);
        t.swap(0, 3);
        t.move(2, 8);
        t.mutate(3, 3);
        t.cost(0, 1, 9);
        t.rate(0, 1, 9);
        check.due("leaves() after other changes", t.leaves(), 7);
    }

    public static void main(String[] args) {
        fromOneToSeven();
        notMoreByARefusedAttach();
        notMoreByOtherChanges();
        check.end();
    }
}
