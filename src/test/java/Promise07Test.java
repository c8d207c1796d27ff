/** Promise 7: rate. */
final class Promise07Test {
    private static final Check check = new Check("Promise07Test");

    private Promise07Test() {
    }

    private static void answersTheOneBefore() {
        BranchTrees t = new BranchTrees(0);
        for (int from = 0; from < 4; from++) {
            for (int to = 0; to < 4; to++) {
                int value = (from * 4 + to) % 10;
                check.due("rate(" + from + ", " + to + ", " + value + ")", t.rate(from, to, value), 1);
            }
        }
        for (int from = 0; from < 4; from++) {
            for (int to = 0; to < 4; to++) {
                String pair = "rate(" + from + ", " + to + ", ";
                check.due(pair + "9)", t.rate(from, to, 9), (from * 4 + to) % 10);
                check.due(pair + "0)", t.rate(from, to, 0), 9);
            }
        }
    }

    /** Two leaves with the states 0 and 1: the sum over the root's states of two rates' product. */
    private static void changesFromTheParentToTheNode() {
        BranchTrees t = new BranchTrees(Trees.code("0000"));
        t.attach(0, Trees.code("1111"));
        check.due("weight(0)", t.weight(0), 4);
        t.rate(0, 1, 3);
        check.due("weight(0), 0 to 1 is 3", t.weight(0), 6);
        t.rate(1, 0, 0);
        check.due("weight(0), 1 to 0 is 0", t.weight(0), 5);
        t.rate(1, 1, 9);
        check.due("weight(0), 1 to 1 is 9", t.weight(0), 5);
        t.rate(2, 1, 2);
        check.due("weight(0), 2 to 1 is 2", t.weight(0), 6);
        t.rate(0, 0, 2);
        check.due("weight(0), 0 to 0 is 2", t.weight(0), 9);
        check.due("least(0) does not look at rates", t.least(0), 1);
    }

    private static void refusals() {
        BranchTrees t = Trees.five();
        t.rate(2, 3, 6);
        String before = Trees.look(t);
        for (int state : Trees.NO_DIGITS) {
            check.due("rate(" + state + ", 0, 1)", t.rate(state, 0, 1), -1);
            check.due("rate(0, " + state + ", 1)", t.rate(0, state, 1), -1);
            check.due("rate(" + state + ", 3, 10)", t.rate(state, 3, 10), -1);
            check.due("rate(3, " + state + ", 10)", t.rate(3, state, 10), -1);
        }
        for (int value : Trees.NO_COSTS) {
            check.due("rate(2, 3, " + value + ")", t.rate(2, 3, value), -2);
        }
        check.same("all after refusals", Trees.look(t), before);
        for (int from = 0; from < 4; from++) {
            for (int to = 0; to < 4; to++) {
                int due = from == 2 && to == 3 ? 6 : 1;
                check.due("rate(" + from + ", " + to + ", 0)", t.rate(from, to, 0), due);
            }
        }
    }

    public static void main(String[] args) {
        answersTheOneBefore();
        changesFromTheParentToTheNode();
        refusals();
        check.end();
    }
}
