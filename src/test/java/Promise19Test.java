/** Promise 19: keptBy. */
final class Promise19Test {
    private static final Check check = new Check("Promise19Test");

    private Promise19Test() {
    }

    private static void kept(BranchTrees t, int x, int y, int due) {
        check.due("keptBy(" + x + ", " + y + ")", t.keptBy(x, y), due);
        check.due("keptBy(" + y + ", " + x + ")", t.keptBy(y, x), due);
    }

    /** The sets of five are 0124, 124 and 24. */
    private static void ofFive() {
        BranchTrees t = Trees.five();
        String before = Trees.look(t);
        kept(t, 2, 4, 3);
        kept(t, 0, 9, 3);
        kept(t, 8, 3, 3);
        kept(t, 0, 11, 2);
        kept(t, 0, 3, 2);
        kept(t, 1, 2, 2);
        kept(t, 3, 11, 1);
        kept(t, 1, 3, 1);
        kept(t, 0, 4, 1);
        kept(t, 3, 2, 0);
        kept(t, 9, 3, 2);
        check.same("all after questions", Trees.look(t), before);
    }

    /** One question alone: a second one of the same two nodes could hide that the first one left them swapped. */
    private static void changesNothing() {
        BranchTrees t = Trees.five();
        String before = Trees.look(t);
        t.keptBy(0, 11);
        check.same("all after keptBy(0, 11)", Trees.look(t), before);
        t.keptBy(3, 2);
        check.same("all after keptBy(3, 2)", Trees.look(t), before);
    }

    private static void ofFewLeaves() {
        BranchTrees t = new BranchTrees(0);
        kept(t, 0, 0, -2);
        t.attach(0, 0);
        kept(t, 0, 1, 0);
        t.attach(1, 0);
        kept(t, 1, 2, 1);
        kept(t, 0, 9, 1);
        kept(t, 0, 1, 0);
    }

    private static void ofSeven() {
        BranchTrees t = Trees.seven();
        kept(t, 0, 6, 5);
        kept(t, 0, 1, 0);
        kept(t, 13, 1, 1);
        kept(t, 12, 4, 5);
    }

    private static void refusals() {
        BranchTrees t = Trees.five();
        String before = Trees.look(t);
        for (int x : Trees.NO_NODES) {
            kept(t, x, 0, -1);
            kept(t, x, x, -1);
        }
        for (int x : new int[] {5, 6, 12, 13}) {
            kept(t, x, x, -1);
            kept(t, x, 10, -1);
        }
        for (int x : new int[] {0, 1, 2, 3, 4, 8, 9, 10, 11}) {
            kept(t, x, x, -2);
            kept(t, x, 10, -2);
        }
        kept(t, 2, 11, -2);
        kept(t, 2, 8, -2);
        kept(t, 9, 4, -2);
        check.same("all after refusals", Trees.look(t), before);
    }

    public static void main(String[] args) {
        ofFive();
        changesNothing();
        ofFewLeaves();
        ofSeven();
        refusals();
        check.end();
    }
}
