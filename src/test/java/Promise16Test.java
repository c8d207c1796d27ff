/** Promise 16: states. */
final class Promise16Test {
    private static final Check check = new Check("Promise16Test");

    private Promise16Test() {
    }

    private static void states(BranchTrees t, int x, int... due) {
        for (int site = 0; site < 4; site++) {
            check.due("states(" + x + ", " + site + ")", t.states(x, site), due[site]);
        }
    }

    private static void leavesHaveTheirOwn() {
        states(new BranchTrees(Trees.code("3201")), 0, 8, 4, 1, 2);
        BranchTrees t = Trees.five();
        states(t, 0, 1, 2, 4, 8);
        states(t, 1, 2, 1, 8, 4);
        states(t, 2, 8, 4, 2, 1);
        states(t, 3, 4, 2, 1, 8);
        states(t, 4, 1, 2, 8, 4);
        t.cost(0, 0, 9);
        t.cost(1, 0, 9);
        states(t, 0, 1, 2, 4, 8);
    }

    private static void innerNodesHaveThoseOfBestAssignments() {
        BranchTrees t = Trees.five();
        String before = Trees.look(t);
        states(t, 10, 1 + 4, 2, 1 + 4 + 8, 8);
        states(t, 8, 1, 2, 1 + 4 + 8, 8);
        states(t, 9, 1, 2, 8, 4);
        states(t, 11, 1, 2, 8, 4);
        check.same("all after questions", Trees.look(t), before);
        Trees.setAllCosts(t, 3);
        states(t, 10, 15, 15, 15, 15);
        states(t, 11, 15, 15, 15, 15);
        states(t, 4, 1, 2, 8, 4);
    }

    private static void refusals() {
        BranchTrees t = Trees.five();
        for (int x : Trees.NO_NODES) {
            check.due("states(" + x + ", 0)", t.states(x, 0), -1);
            check.due("states(" + x + ", 4)", t.states(x, 4), -1);
        }
        for (int x : new int[] {5, 6, 12, 13}) {
            check.due("states(" + x + ", 0)", t.states(x, 0), -1);
            check.due("states(" + x + ", -1)", t.states(x, -1), -1);
        }
        for (int site : Trees.NO_DIGITS) {
            check.due("states(0, " + site + ")", t.states(0, site), -2);
            check.due("states(11, " + site + ")", t.states(11, site), -2);
        }
    }

    public static void main(String[] args) {
        leavesHaveTheirOwn();
        innerNodesHaveThoseOfBestAssignments();
        refusals();
        check.end();
    }
}
