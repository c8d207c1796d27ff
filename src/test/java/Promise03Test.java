/** Promise 3: mutate. */
final class Promise03Test {
    private static final Check check = new Check("Promise03Test");

    private Promise03Test() {
    }

    private static void refused(int leaves, int x, int states, int due) {
        check.keeps(leaves, "mutate(" + x + ", " + states + ")", t -> t.mutate(x, states), due);
    }

    private static void givesOtherStates() {
        BranchTrees t = Trees.five();
        check.due("mutate(1, 2310)", t.mutate(1, Trees.code("2310")), 78);
        check.due("states(1, 0)", t.states(1, 0), 4);
        check.due("states(1, 1)", t.states(1, 1), 8);
        check.due("states(1, 2)", t.states(1, 2), 2);
        check.due("states(1, 3)", t.states(1, 3), 1);
        check.same("parents", Trees.parents(t), "8 9 11 10 11 -1 -1 -1 10 8 -2 9 -1 -1");
    }

    private static void changesTheTotal() {
        BranchTrees t = new BranchTrees(0);
        t.attach(0, 0);
        check.due("total()", t.total(), 0);
        t.mutate(1, 255);
        check.due("total(), all sites differ", t.total(), 4);
        t.mutate(0, Trees.code("3303"));
        check.due("total(), site 2 differs", t.total(), 1);
    }

    /** "otherwise answers the number of those before": of the first, the last and every other leaf, 0 and 255 too. */
    private static void answersTheNumberBefore() {
        for (int leaves = 1; leaves <= 7; leaves++) {
            BranchTrees t = Trees.grown(leaves);
            for (int x = 0; x < leaves; x++) {
                check.due("mutate(" + x + ", 0) of " + leaves + " leaves", t.mutate(x, 0), Trees.codeOf(x));
                check.due("mutate(" + x + ", 0) again", t.mutate(x, 0), 0);
                check.due("mutate(" + x + ", 255)", t.mutate(x, 255), 0);
                check.due("mutate(" + x + ", 255) again", t.mutate(x, 255), 255);
                check.due("mutate(" + x + ", 1)", t.mutate(x, 1), 255);
            }
        }
    }

    /** A leaf that gets its own states again is as before. */
    private static void sameStatesChangeNothing() {
        for (int leaf = 0; leaf < 7; leaf++) {
            int x = leaf;
            int own = Trees.codeOf(x);
            check.keeps(7, "mutate(" + x + ", " + own + ")", t -> t.mutate(x, own), own);
        }
    }

    /** "-1 if x is not good". */
    private static void ofNoNode() {
        for (int leaves = 1; leaves <= 7; leaves++) {
            for (int x : Trees.badNodes(leaves)) {
                refused(leaves, x, 0, -1);
            }
        }
    }

    /** "-1 if x is .. not a leaf": the first, the last and every other inner node. */
    private static void ofNoLeaf() {
        for (int leaves = 2; leaves <= 7; leaves++) {
            for (int x = 8; x < 8 + leaves - 1; x++) {
                refused(leaves, x, 0, -1);
            }
        }
    }

    /** "-2 if states is not in 0 .. 255". */
    private static void statesOutside() {
        for (int code : Trees.NO_CODES) {
            refused(1, 0, code, -2);
            refused(7, 6, code, -2);
        }
    }

    /** "the tests are made in the order named". */
    private static void inTheOrderNamed() {
        for (int code : Trees.NO_CODES) {
            refused(1, 1, code, -1);
            refused(5, 11, code, -1);
            refused(7, -1, code, -1);
            refused(7, 7, code, -1);
            refused(7, 8, code, -1);
            refused(7, 14, code, -1);
        }
    }

    public static void main(String[] args) {
        givesOtherStates();
        changesTheTotal();
        answersTheNumberBefore();
        sameStatesChangeNothing();
        ofNoNode();
        ofNoLeaf();
        statesOutside();
        inTheOrderNamed();
        check.end();
    }
}
