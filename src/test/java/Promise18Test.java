/** Promise 18: bestPlace. */
final class Promise18Test {
    private static final Check check = new Check("Promise18Test");

    private Promise18Test() {
    }

    /** 9( 8( 0, 1 ), 10( 2, 3 ) ), with 0000 on the one side and 1111 on the other. */
    private static BranchTrees twoSides() {
        BranchTrees t = new BranchTrees(Trees.code("0000"));
        t.attach(0, Trees.code("0000"));
        t.attach(8, Trees.code("1111"));
        t.attach(2, Trees.code("1111"));
        return t;
    }

    private static void best(BranchTrees t, String states, int due) {
        check.due("bestPlace(" + states + ")", t.bestPlace(Trees.code(states)), due);
    }

    private static void keeps(int leaves, int states, int due) {
        check.keeps(leaves, "bestPlace(" + states + ")", t -> t.bestPlace(states), due);
    }

    private static void ofTwoSides() {
        BranchTrees t = twoSides();
        best(t, "0000", 0);
        best(t, "2222", 0);
        // Beside 2, 3, 8, 9 or 10 nothing is added to the total.
        best(t, "1111", 2);
    }

    /** 8( 9( 0, 2 ), 1 ), with 0000 in the pair: beside 1, 8 or 9 a leaf like leaf 1 adds nothing. */
    private static void besideItsLike() {
        BranchTrees t = new BranchTrees(Trees.code("0000"));
        t.attach(0, Trees.code("2222"));
        t.attach(0, Trees.code("0000"));
        best(t, "2222", 1);
        best(t, "0000", 0);
    }

    /** One site draws the leaf to the one side, the others to the other: between them it adds nothing. */
    private static void allSitesTogether() {
        BranchTrees t = twoSides();
        best(t, "0111", 8);
        best(t, "0001", 8);
        t.attach(8, Trees.code("0111"));
        check.due("total() there", t.total(), 4);
    }

    /** Two leaves 0000, and changes such that a leaf 1111 costs 4 above them and 8 beside either. */
    private static void anInnerNodeWhereItIsBest() {
        BranchTrees t = new BranchTrees(0);
        t.attach(0, 0);
        t.cost(1, 0, 0);
        t.cost(0, 1, 9);
        t.cost(1, 1, 1);
        best(t, "1111", 8);
        t.attach(8, Trees.code("1111"));
        check.due("total() there", t.total(), 4);
    }

    /** The nodes beside which the total would be least, found by making each leaf, as the sum of 2^node. */
    private static int bestNodes(int leaves, int states) {
        int least = Integer.MAX_VALUE;
        int nodes = 0;
        for (int x : Trees.goodNodes(leaves)) {
            BranchTrees t = Trees.grown(leaves);
            t.attach(x, states);
            int total = t.total();
            if (total < least) {
                least = total;
                nodes = 0;
            }
            nodes += total == least ? 1 << x : 0;
        }
        return nodes;
    }

    /** "beside which a new leaf with these states would make the total least": of each number 0 .. 255. */
    private static void ofEveryGoodNumber() {
        for (int leaves = 1; leaves <= 6; leaves++) {
            BranchTrees t = Trees.grown(leaves);
            for (int states = 0; states <= 255; states++) {
                int due = Integer.numberOfTrailingZeros(bestNodes(leaves, states));
                check.due("bestPlace(" + states + ") of " + leaves + " leaves", t.bestPlace(states), due);
            }
            check.kept(leaves, "bestPlace(0) .. bestPlace(50)", firstFifty(leaves));
        }
    }

    /** Apart, since with 256 questions before it an object has no calls left to be asked all. */
    private static BranchTrees firstFifty(int leaves) {
        BranchTrees t = Trees.grown(leaves);
        for (int states = 0; states <= 50; states++) {
            t.bestPlace(states);
        }
        return t;
    }

    private static void amongSeveral(int states, int due, int... nodes) {
        int set = 0;
        for (int node : nodes) {
            set += 1 << node;
        }
        check.due("the best nodes for " + states, bestNodes(6, states), set);
        keeps(6, states, due);
    }

    /** "the least number among several": leaves, a leaf and an inner node, inner nodes; and where there is but one. */
    private static void theLeastNumberAmongSeveral() {
        amongSeveral(144, 3, 3, 4);
        amongSeveral(24, 0, 0, 4);
        amongSeveral(168, 0, 0, 4, 8);
        amongSeveral(41, 5, 5, 11);
        amongSeveral(5, 11, 11, 12);
        amongSeveral(9, 5, 5);
        amongSeveral(64, 10, 10);
        amongSeveral(4, 12, 12);
    }

    /** Where all nodes are as good, it is leaf 0, at the least and at the greatest totals. */
    private static void allNodesAsGood() {
        for (int leaves = 1; leaves <= 6; leaves++) {
            BranchTrees t = Trees.grown(leaves);
            Trees.setAllCosts(t, 0);
            check.due("bestPlace(255), all costs 0", t.bestPlace(255), 0);
            Trees.setAllCosts(t, 9);
            check.due("bestPlace(0), all costs 9", t.bestPlace(0), 0);
        }
    }

    /** A tree of one leaf has one place. */
    private static void ofOneLeaf() {
        for (int states : new int[] {0, 1, 27, 254, 255}) {
            keeps(1, states, 0);
        }
    }

    /** "-1 if states is not in 0 .. 255". */
    private static void statesOutside() {
        for (int leaves = 1; leaves <= 6; leaves++) {
            for (int states : Trees.NO_CODES) {
                keeps(leaves, states, -1);
            }
        }
    }

    /** "-2 if there are 7 leaves": with six there is still a place. */
    private static void ofAFullTree() {
        keeps(6, 0, Integer.numberOfTrailingZeros(bestNodes(6, 0)));
        keeps(6, 255, Integer.numberOfTrailingZeros(bestNodes(6, 255)));
        for (int states : new int[] {0, 1, 114, 254, 255}) {
            keeps(7, states, -2);
        }
    }

    /** "the tests are made in the order named". */
    private static void inTheOrderNamed() {
        for (int states : Trees.NO_CODES) {
            keeps(7, states, -1);
        }
    }

    /** "No question changes anything": the leaf that was only thought of is not made, nor its inner node. */
    private static void makesNoLeaf() {
        BranchTrees t = Trees.five();
        t.bestPlace(255);
        check.due("leaves()", t.leaves(), 5);
        check.due("parent(5)", t.parent(5), -1);
        check.due("parent(12)", t.parent(12), -1);
        check.due("attach(11, 0)", t.attach(11, 0), 5);
        check.due("parent(5)", t.parent(5), 12);
        check.due("mutate(5, 1)", t.mutate(5, 1), 0);
    }

    public static void main(String[] args) {
        ofTwoSides();
        besideItsLike();
        allSitesTogether();
        anInnerNodeWhereItIsBest();
        ofEveryGoodNumber();
        theLeastNumberAmongSeveral();
        allNodesAsGood();
        ofOneLeaf();
        statesOutside();
        ofAFullTree();
        inTheOrderNamed();
        makesNoLeaf();
        check.end();
    }
}
