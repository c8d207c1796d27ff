/** Promise 15: ways. */
final class Promise15Test {
    private static final Check check = new Check("Promise15Test");

    private Promise15Test() {
    }

    private static void ways(BranchTrees t, int... due) {
        for (int site = 0; site < 4; site++) {
            check.due("ways(" + site + ")", t.ways(site), due[site]);
        }
    }

    private static void ofFewLeaves() {
        BranchTrees t = new BranchTrees(Trees.code("0123"));
        ways(t, 1, 1, 1, 1);
        t.attach(0, Trees.code("0213"));
        ways(t, 1, 2, 2, 1);
        t.cost(1, 2, 2);
        ways(t, 1, 1, 1, 1);
        t.cost(2, 1, 2);
        // Now every state of the root comes to 2 where the leaves are 1 and 2.
        ways(t, 1, 4, 4, 1);
    }

    private static void ofFive() {
        BranchTrees t = Trees.five();
        String before = Trees.look(t);
        ways(t, 2, 1, 5, 1);
        for (int site : Trees.NO_DIGITS) {
            check.due("ways(" + site + ")", t.ways(site), -1);
        }
        check.same("all after questions", Trees.look(t), before);
    }

    private static void whereAllAssignmentsAreBest() {
        BranchTrees t = Trees.seven();
        Trees.setAllCosts(t, 9);
        ways(t, 4096, 4096, 4096, 4096);
        Trees.setAllCosts(t, 0);
        ways(t, 4096, 4096, 4096, 4096);
        BranchTrees five = Trees.five();
        Trees.setAllCosts(five, 4);
        ways(five, 256, 256, 256, 256);
    }

    public static void main(String[] args) {
        ofFewLeaves();
        ofFive();
        whereAllAssignmentsAreBest();
        check.end();
    }
}
