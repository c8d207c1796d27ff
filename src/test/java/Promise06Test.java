/** Promise 6: cost. */
final class Promise06Test {
    private static final Check check = new Check("Promise06Test");

    private Promise06Test() {
    }

    /** "otherwise answers the one before": of each change, and of 0 .. 9. */
    private static void answersTheOneBefore() {
        BranchTrees t = new BranchTrees(0);
        for (int from = 0; from < 4; from++) {
            for (int to = 0; to < 4; to++) {
                int value = (from * 4 + to) % 10;
                String pair = "cost(" + from + ", " + to + ", ";
                check.due(pair + value + ")", t.cost(from, to, value), from == to ? 0 : 1);
            }
        }
        for (int from = 0; from < 4; from++) {
            for (int to = 0; to < 4; to++) {
                String pair = "cost(" + from + ", " + to + ", ";
                check.due(pair + "9)", t.cost(from, to, 9), (from * 4 + to) % 10);
                check.due(pair + "0)", t.cost(from, to, 0), 9);
            }
        }
    }

    /** Two leaves with the states 0 and 1: the root's state decides, and each cost has a direction. */
    private static void changesFromTheParentToTheNode() {
        BranchTrees t = new BranchTrees(Trees.code("0000"));
        t.attach(0, Trees.code("1111"));
        check.due("least(0)", t.least(0), 1);
        t.cost(0, 1, 5);
        check.due("least(0), 0 to 1 is 5", t.least(0), 1);
        check.due("states(8, 0), 0 to 1 is 5", t.states(8, 0), 2);
        t.cost(1, 0, 3);
        check.due("least(0), 1 to 0 is 3 too", t.least(0), 2);
        check.due("states(8, 0), 1 to 0 is 3 too", t.states(8, 0), 4 + 8);
        t.cost(0, 0, 1);
        t.cost(0, 1, 0);
        check.due("least(0), 0 to 0 is 1", t.least(0), 1);
        check.due("states(8, 0), 0 to 0 is 1", t.states(8, 0), 1);
    }

    private static void refused(int from, int to, int value, int due) {
        String call = "cost(" + from + ", " + to + ", " + value + ")";
        check.keeps(1, call, t -> t.cost(from, to, value), due);
        check.keeps(7, call, t -> t.cost(from, to, value), due);
    }

    /** "-1 if from or to is not a state": the one, the other, and both. */
    private static void noState() {
        for (int state : Trees.NO_DIGITS) {
            for (int good = 0; good < 4; good++) {
                refused(state, good, 5, -1);
                refused(good, state, 5, -1);
            }
            refused(state, state, 5, -1);
        }
    }

    /** "-2 if cost is not in 0 .. 9": of every change; 0 and 9 are still good. */
    private static void outside() {
        for (int from = 0; from < 4; from++) {
            for (int to = 0; to < 4; to++) {
                for (int value : Trees.NO_COSTS) {
                    refused(from, to, value, -2);
                }
                BranchTrees t = Trees.grown(7);
                String pair = "cost(" + from + ", " + to + ", ";
                check.due(pair + "0)", t.cost(from, to, 0), Trees.costOf(from, to));
                check.due(pair + "9)", t.cost(from, to, 9), 0);
                check.due(pair + "9) again", t.cost(from, to, 9), 9);
            }
        }
    }

    /** One cost is set, and no other: not that of the change back, nor that of another state. */
    private static void setsOneAlone() {
        for (int pair = 0; pair < 16; pair++) {
            BranchTrees t = Trees.grown(3);
            t.cost(pair / 4, pair % 4, 9);
            for (int other = 0; other < 16; other++) {
                int from = other / 4;
                int to = other % 4;
                int due = other == pair ? 9 : Trees.costOf(from, to);
                check.due("cost(" + from + ", " + to + ", 0)", t.cost(from, to, 0), due);
            }
        }
    }

    /** "the tests are made in the order named". */
    private static void inTheOrderNamed() {
        for (int value : Trees.NO_COSTS) {
            refused(-1, 0, value, -1);
            refused(0, -1, value, -1);
            refused(4, 3, value, -1);
            refused(3, 4, value, -1);
            refused(4, 4, value, -1);
        }
    }

    public static void main(String[] args) {
        answersTheOneBefore();
        changesFromTheParentToTheNode();
        noState();
        outside();
        setsOneAlone();
        inTheOrderNamed();
        check.end();
    }
}
