/** Promise 6: cost. */
final class Promise06Test {
    private static final Check check = new Check("Promise06Test");

    private Promise06Test() {
    }

    private static void answersTheOneBefore() {
        BranchTrees t = new BranchTrees(0);
        for (int from = 0; from < 4; from++) {
            for (int to = 0; to < 4; to++) {
                int value = (from * 4 + to) % 10;
                String pair = "cost(" + from + ", " + to + ", ";
                check.due(pair + value + ")", t.cost(from, to, value), from == to ? 0 : 1);
            }
        }
        for (int from = 0; from < 4; from++) {
            for (int to = 0; to < 4; to++) {
                String pair = "cost(" + from + ", " + to + ", ";
                check.due(pair + "9)", t.cost(from, to, 9), (from * 4 + to) % 10);
                check.due(pair + "0)", t.cost(from, to, 0), 9);
            }
        }
    }

    /** Two leaves with the states 0 and 1: the root's state decides, and each cost has a direction. */
    private static void changesFromTheParentToTheNode() {
        BranchTrees t = new BranchTrees(Trees.code("0000"));
        t.attach(0, Trees.code("1111"));
        check.due("least(0)", t.least(0), 1);
        t.cost(0, 1, 5);
        check.due("least(0), 0 to 1 is 5", t.least(0), 1);
        check.due("states(8, 0), 0 to 1 is 5", t.states(8, 0), 2);
        t.cost(1, 0, 3);
        check.due("least(0), 1 to 0 is 3 too", t.least(0), 2);
        check.due("states(8, 0), 1 to 0 is 3 too", t.states(8, 0), 4 + 8);
        t.cost(0, 0, 1);
        t.cost(0, 1, 0);
        check.due("least(0), 0 to 0 is 1", t.least(0), 1);
        check.due("states(8, 0), 0 to 0 is 1", t.states(8, 0), 1);
    }

    private static void refusals() {
        BranchTrees t = Trees.five();
        t.cost(2, 3, 6);
        String before = Trees.look(t);
        for (int state : Trees.NO_DIGITS) {
            check.due("cost(" + state + ", 0, 1)", t.cost(state, 0, 1), -1);
            check.due("cost(0, " + state + ", 1)", t.cost(0, state, 1), -1);
            check.due("cost(" + state + ", 3, 10)", t.cost(state, 3, 10), -1);
            check.due("cost(3, " + state + ", 10)", t.cost(3, state, 10), -1);
        }
        for (int value : Trees.NO_COSTS) {
            check.due("cost(2, 3, " + value + ")", t.cost(2, 3, value), -2);
        }
        check.same("all after refusals", Trees.look(t), before);
        for (int from = 0; from < 4; from++) {
            for (int to = 0; to < 4; to++) {
                int due = from == 2 && to == 3 ? 6 : from == to ? 0 : 1;
                check.due("cost(" + from + ", " + to + ", 0)", t.cost(from, to, 0), due);
            }
        }
    }

    public static void main(String[] args) {
        answersTheOneBefore();
        changesFromTheParentToTheNode();
        refusals();
        check.end();
    }
}
