/** Promise 14: total. */
final class Promise14Test {
    private static final Check check = new Check("Promise14Test");

    private Promise14Test() {
    }

    private static void ofTwo(String one, String other, int due) {
        BranchTrees t = new BranchTrees(Trees.code(one));
        t.attach(0, Trees.code(other));
        check.due("total() of " + one + " and " + other, t.total(), due);
    }

    private static void everySiteCounts() {
        check.due("total() of one leaf", new BranchTrees(99).total(), 0);
        ofTwo("0123", "0123", 0);
        ofTwo("0123", "1123", 1);
        ofTwo("0123", "0023", 1);
        ofTwo("0123", "0103", 1);
        ofTwo("0123", "0122", 1);
        ofTwo("0123", "3210", 4);
    }

    private static void ofLargerTrees() {
        BranchTrees five = Trees.five();
        String before = Trees.look(five);
        check.due("total() of five", five.total(), 3 + 2 + 3 + 2);
        check.same("all after the question", Trees.look(five), before);
        BranchTrees seven = Trees.seven();
        Trees.setAllCosts(seven, 9);
        check.due("total() of seven, all costs 9", seven.total(), 4 * 12 * 9);
    }

    public static void main(String[] args) {
        everySiteCounts();
        ofLargerTrees();
        check.end();
    }
}
