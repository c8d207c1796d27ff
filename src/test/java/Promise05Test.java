/** Promise 5: move. */
final class Promise05Test {
    private static final Check check = new Check("Promise05Test");

    private Promise05Test() {
    }

    private static void moved(int x, int y, int root, String parents) {
        BranchTrees t = Trees.five();
        check.due("move(" + x + ", " + y + ")", t.move(x, y), 0);
        check.due("root() after move(" + x + ", " + y + ")", t.root(), root);
        check.due("leaves() after move(" + x + ", " + y + ")", t.leaves(), 5);
        check.same("parents after move(" + x + ", " + y + ")", Trees.parents(t), parents);
    }

    private static void besideNodesOfAllKinds() {
        moved(2, 0, 10, "11 9 11 10 9 -1 -1 -1 10 8 -2 8 -1 -1");
        moved(2, 9, 10, "8 9 11 10 9 -1 -1 -1 10 11 -2 8 -1 -1");
        moved(2, 10, 11, "8 9 11 10 9 -1 -1 -1 10 8 11 -2 -1 -1");
        moved(9, 3, 10, "10 9 11 8 11 -1 -1 -1 10 8 -2 9 -1 -1");
        moved(9, 10, 8, "10 9 11 10 11 -1 -1 -1 -2 8 8 9 -1 -1");
    }

    private static void takingOutTheRoot() {
        moved(3, 1, 8, "8 10 11 10 11 -1 -1 -1 -2 8 9 9 -1 -1");
        moved(3, 9, 8, "8 9 11 10 11 -1 -1 -1 -2 10 8 9 -1 -1");
    }

    private static void besideTheSibling() {
        String same = "8 9 11 10 11 -1 -1 -1 10 8 -2 9 -1 -1";
        moved(2, 4, 10, same);
        moved(0, 9, 10, same);
        moved(9, 0, 10, same);
        moved(3, 8, 10, same);
        moved(8, 3, 10, same);
    }

    private static void refused(BranchTrees t, int x, int y, int answer) {
        check.due("move(" + x + ", " + y + ")", t.move(x, y), answer);
    }

    private static void refusals() {
        BranchTrees t = Trees.five();
        for (int x : Trees.NO_NODES) {
            refused(t, x, 0, -1);
            refused(t, 0, x, -1);
            refused(t, 10, x, -1);
            refused(t, x, x, -1);
        }
        for (int x : new int[] {5, 6, 12, 13}) {
            refused(t, x, x, -1);
            refused(t, 10, x, -1);
        }
        for (int y : new int[] {0, 1, 2, 3, 4, 8, 9, 10, 11}) {
            refused(t, 10, y, -2);
        }
        for (int y : new int[] {9, 1, 11, 2, 4, 8}) {
            refused(t, 9, y, -3);
        }
        refused(t, 0, 0, -3);
        refused(t, 0, 8, -3);
        refused(t, 8, 10, -3);
        refused(t, 3, 10, -3);
        check.same("all after refusals", Trees.look(t), Trees.look(Trees.five()));
        refused(new BranchTrees(0), 0, 0, -2);
    }

    public static void main(String[] args) {
        besideNodesOfAllKinds();
        takingOutTheRoot();
        besideTheSibling();
        refusals();
        check.end();
    }
}
