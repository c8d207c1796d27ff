/** Promise 3: mutate. */
final class Promise03Test {
    private static final Check check = new Check("Promise03Test");

    private Promise03Test() {
    }

    private static void givesOtherStates() {
        BranchTrees t = Trees.five();
        check.due("mutate(1, 0)", t.mutate(1, 0), 78);
        check.due("mutate(1, 255)", t.mutate(1, 255), 0);
        check.due("mutate(1, 2310)", t.mutate(1, Trees.code("2310")), 255);
        check.due("states(1, 0)", t.states(1, 0), 4);
        check.due("states(1, 1)", t.states(1, 1), 8);
        check.due("states(1, 2)", t.states(1, 2), 2);
        check.due("states(1, 3)", t.states(1, 3), 1);
        check.due("mutate(0, 1)", t.mutate(0, 1), 27);
        check.due("mutate(2, 1)", t.mutate(2, 1), 228);
        check.due("mutate(3, 1)", t.mutate(3, 1), 147);
        check.due("mutate(4, 1)", t.mutate(4, 1), 30);
        check.same("parents", Trees.parents(t), "8 9 11 10 11 -1 -1 -1 10 8 -2 9 -1 -1");
    }

    private static void changesTheTotal() {
        BranchTrees t = new BranchTrees(0);
        t.attach(0, 0);
        check.due("total()", t.total(), 0);
        t.mutate(1, 255);
        check.due("total(), all sites differ", t.total(), 4);
        t.mutate(0, Trees.code("3303"));
        check.due("total(), site 2 differs", t.total(), 1);
    }

    private static void refusals() {
        BranchTrees t = Trees.five();
        String before = Trees.look(t);
        for (int x : Trees.NO_NODES) {
            check.due("mutate(" + x + ", 0)", t.mutate(x, 0), -1);
        }
        for (int x : new int[] {5, 6, 8, 9, 10, 11, 12, 13}) {
            check.due("mutate(" + x + ", 0)", t.mutate(x, 0), -1);
            check.due("mutate(" + x + ", 256)", t.mutate(x, 256), -1);
        }
        for (int code : Trees.NO_CODES) {
            check.due("mutate(4, " + code + ")", t.mutate(4, code), -2);
        }
        check.same("the tree after refusals", Trees.look(t), before);
    }

    public static void main(String[] args) {
        givesOtherStates();
        changesTheTotal();
        refusals();
        check.end();
    }
}
