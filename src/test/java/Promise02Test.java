/** Promise 2: attach. */
final class Promise02Test {
    private static final Check check = new Check("Promise02Test");

    private Promise02Test() {
    }

    private static void attach(BranchTrees t, int x, String states, int answer, String parents) {
        check.due("attach(" + x + ", " + states + ")", t.attach(x, Trees.code(states)), answer);
        check.same("parents after attach(" + x + ", " + states + ")", Trees.parents(t), parents);
        for (int site = 0; site < 4; site++) {
            int state = states.charAt(site) - '0';
            check.due("states(" + answer + ", " + site + ")", t.states(answer, site), 1 << state);
        }
    }

    private static void besideLeavesInnerNodesAndTheRoot() {
        BranchTrees t = new BranchTrees(0);
        attach(t, 0, "1032", 1, "8 8 -1 -1 -1 -1 -1 -1 -2 -1 -1 -1 -1 -1");
        attach(t, 1, "3210", 2, "8 9 9 -1 -1 -1 -1 -1 -2 8 -1 -1 -1 -1");
        attach(t, 8, "2103", 3, "8 9 9 10 -1 -1 -1 -1 10 8 -2 -1 -1 -1");
        attach(t, 2, "0132", 4, "8 9 11 10 11 -1 -1 -1 10 8 -2 9 -1 -1");
        attach(t, 9, "0000", 5, "8 9 11 10 11 12 -1 -1 10 12 -2 9 8 -1");
        attach(t, 5, "3333", 6, "8 9 11 10 11 13 13 -1 10 12 -2 9 8 12");
        check.due("leaves()", t.leaves(), 7);
        check.due("root()", t.root(), 10);
    }

    private static void refusals() {
        BranchTrees t = Trees.five();
        String before = Trees.look(t);
        for (int x : Trees.NO_NODES) {
            check.due("attach(" + x + ", 0)", t.attach(x, 0), -1);
            check.due("attach(" + x + ", 256)", t.attach(x, 256), -1);
        }
        for (int x : new int[] {5, 6, 12, 13}) {
            check.due("attach(" + x + ", 0)", t.attach(x, 0), -1);
        }
        for (int code : Trees.NO_CODES) {
            check.due("attach(0, " + code + ")", t.attach(0, code), -2);
            check.due("attach(8, " + code + ")", t.attach(8, code), -2);
        }
        check.same("the tree after refusals", Trees.look(t), before);
    }

    private static void refusalsOfAFullTree() {
        BranchTrees t = Trees.seven();
        String before = Trees.look(t);
        check.due("attach(7, 256), full", t.attach(7, 256), -1);
        check.due("attach(14, 0), full", t.attach(14, 0), -1);
        check.due("attach(6, 256), full", t.attach(6, 256), -2);
        check.due("attach(13, -1), full", t.attach(13, -1), -2);
        check.due("attach(0, 0), full", t.attach(0, 0), -3);
        check.due("attach(13, 255), full", t.attach(13, 255), -3);
        check.same("the full tree after refusals", Trees.look(t), before);
    }

    public static void main(String[] args) {
        besideLeavesInnerNodesAndTheRoot();
        refusals();
        refusalsOfAFullTree();
        check.end();
    }
}
