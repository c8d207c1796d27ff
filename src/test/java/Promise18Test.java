/** Promise 18: bestPlace. */
final class Promise18Test {
    private static final Check check = new Check("Promise18Test");

    private Promise18Test() {
    }

    /** 9( 8( 0, 1 ), 10( 2, 3 ) ), with 0000 on the one side and 1111 on the other. */
    private static BranchTrees twoSides() {
        BranchTrees t = new BranchTrees(Trees.code("0000"));
        t.attach(0, Trees.code("0000"));
        t.attach(8, Trees.code("1111"));
        t.attach(2, Trees.code("1111"));
        return t;
    }

    private static void best(BranchTrees t, String states, int due) {
        check.due("bestPlace(" + states + ")", t.bestPlace(Trees.code(states)), due);
    }

    private static void theLeastNumberAmongSeveral() {
        best(new BranchTrees(0), "3333", 0);
        BranchTrees t = twoSides();
        best(t, "0000", 0);
        best(t, "2222", 0);
        // Beside 2, 3, 8, 9 or 10 nothing is added to the total.
        best(t, "1111", 2);
    }

    /** 8( 9( 0, 2 ), 1 ), with 0000 in the pair: beside 1, 8 or 9 a leaf like leaf 1 adds nothing. */
    private static void besideItsLike() {
        BranchTrees t = new BranchTrees(Trees.code("0000"));
        t.attach(0, Trees.code("2222"));
        t.attach(0, Trees.code("0000"));
        best(t, "2222", 1);
        best(t, "0000", 0);
    }

    /** One site draws the leaf to the one side, the others to the other: between them it adds nothing. */
    private static void allSitesTogether() {
        BranchTrees t = twoSides();
        best(t, "0111", 8);
        best(t, "0001", 8);
        t.attach(8, Trees.code("0111"));
        check.due("total() there", t.total(), 4);
    }

    /** Two leaves 0000, and changes such that a leaf 1111 costs 4 above them and 8 beside either. */
    private static void anInnerNodeWhereItIsBest() {
        BranchTrees t = new BranchTrees(0);
        t.attach(0, 0);
        t.cost(1, 0, 0);
        t.cost(0, 1, 9);
        t.cost(1, 1, 1);
        best(t, "1111", 8);
        t.attach(8, Trees.code("1111"));
        check.due("total() there", t.total(), 4);
    }

    private static void changesNothing() {
        BranchTrees t = Trees.five();
        String before = Trees.look(t);
        for (int code = 0; code < 256; code += 51) {
            t.bestPlace(code);
        }
        for (int code : Trees.NO_CODES) {
            check.due("bestPlace(" + code + ")", t.bestPlace(code), -1);
        }
        check.same("all after questions", Trees.look(t), before);
        check.due("attach(11, 0)", t.attach(11, 0), 5);
        check.due("parent(5)", t.parent(5), 12);
    }

    private static void ofAFullTree() {
        BranchTrees t = Trees.seven();
        String before = Trees.look(t);
        check.due("bestPlace(0), full", t.bestPlace(0), -2);
        check.due("bestPlace(255), full", t.bestPlace(255), -2);
        check.due("bestPlace(256), full", t.bestPlace(256), -1);
        check.due("bestPlace(-1), full", t.bestPlace(-1), -1);
        check.same("all after refusals", Trees.look(t), before);
    }

    public static void main(String[] args) {
        theLeastNumberAmongSeveral();
        besideItsLike();
        allSitesTogether();
        anInnerNodeWhereItIsBest();
        changesNothing();
        ofAFullTree();
        check.end();
    }
}
