/** Promise 2: attach. */
final class Promise02Test {
    private static final Check check = new Check("Promise02Test");

    private Promise02Test() {
    }

    private static void attach(BranchTrees t, int x, String states, int answer, String parents) {
        check.due("attach(" + x + ", " + states + ")", t.attach(x, Trees.code(states)), answer);
        check.same("parents after attach(" + x + ", " + states + ")", Trees.parents(t), parents);
        for (int site = 0; site < 4; site++) {
            int state = states.charAt(site) - '0';
            check.due("states(" + answer + ", " + site + ")", t.states(answer, site), 1 << state);
        }
    }

    private static void refused(int leaves, int x, int states, int due) {
        check.keeps(leaves, "attach(" + x + ", " + states + ")", t -> t.attach(x, states), due);
    }

    /** "a new inner node takes the place of x (as a child of x's parent, or as the root)". */
    private static void besideLeavesInnerNodesAndTheRoot() {
        BranchTrees t = new BranchTrees(0);
        attach(t, 0, "1032", 1, "8 8 -1 -1 -1 -1 -1 -1 -2 -1 -1 -1 -1 -1");
        attach(t, 1, "3210", 2, "8 9 9 -1 -1 -1 -1 -1 -2 8 -1 -1 -1 -1");
        attach(t, 8, "2103", 3, "8 9 9 10 -1 -1 -1 -1 10 8 -2 -1 -1 -1");
        attach(t, 2, "0132", 4, "8 9 11 10 11 -1 -1 -1 10 8 -2 9 -1 -1");
        attach(t, 9, "0000", 5, "8 9 11 10 11 12 -1 -1 10 12 -2 9 8 -1");
        attach(t, 5, "3333", 6, "8 9 11 10 11 13 13 -1 10 12 -2 9 8 12");
        check.due("leaves()", t.leaves(), 7);
        check.due("root()", t.root(), 10);
    }

    /** "otherwise answers the leaf's number": beside the first, the last and every other good node. */
    private static void besideEveryGoodNode() {
        for (int size = 1; size < 7; size++) {
            int leaves = size;
            for (int x : Trees.goodNodes(leaves)) {
                BranchTrees t = Trees.grown(leaves);
                int above = t.parent(x);
                String call = "attach(" + x + ", 0) of " + leaves + " leaves";
                check.due(call, t.attach(x, 0), leaves);
                check.due("leaves() after " + call, t.leaves(), leaves + 1);
                check.due("parent of the leaf after " + call, t.parent(leaves), 7 + leaves);
                check.due("parent of x after " + call, t.parent(x), 7 + leaves);
                check.due("parent of the inner node after " + call, t.parent(7 + leaves), above);
            }
        }
    }

    /** "-1 if x is not good", on both sides of the leaves and of the inner nodes. */
    private static void besideNoNode() {
        for (int leaves = 1; leaves <= 7; leaves++) {
            for (int x : Trees.badNodes(leaves)) {
                refused(leaves, x, 0, -1);
            }
        }
    }

    /** "-2 if states is not in 0 .. 255". */
    private static void statesOutside() {
        for (int code : Trees.NO_CODES) {
            refused(1, 0, code, -2);
            refused(6, 12, code, -2);
        }
        for (int code : new int[] {0, 255}) {
            BranchTrees t = Trees.grown(6);
            check.due("attach(12, " + code + ")", t.attach(12, code), 6);
            check.due("mutate(6, 1) after attach(12, " + code + ")", t.mutate(6, 1), code);
        }
    }

    /** "-3 if there are 7 leaves": the seventh is still made, the eighth is not. */
    private static void ofAFullTree() {
        check.answers(6, "attach(0, 0)", t -> t.attach(0, 0), 6);
        for (int x : Trees.goodNodes(7)) {
            refused(7, x, 0, -3);
            refused(7, x, 255, -3);
        }
    }

    /** "the tests are made in the order named". */
    private static void inTheOrderNamed() {
        for (int code : Trees.NO_CODES) {
            refused(6, 13, code, -1);
            refused(6, 6, code, -1);
            refused(7, 7, code, -1);
            refused(7, 14, code, -1);
            refused(7, -1, code, -1);
            refused(7, 0, code, -2);
            refused(7, 13, code, -2);
        }
    }

    public static void main(String[] args) {
        besideLeavesInnerNodesAndTheRoot();
        besideEveryGoodNode();
        besideNoNode();
        statesOutside();
        ofAFullTree();
        inTheOrderNamed();
        check.end();
    }
}
