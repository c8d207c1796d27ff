/** Promise 7: rate. */
final class Promise07Test {
    private static final Check check = new Check("Promise07Test");

    private Promise07Test() {
    }

    /** "otherwise answers the one before": of each change, and of 0 .. 9. */
    private static void answersTheOneBefore() {
        BranchTrees t = new BranchTrees(0);
        for (int from = 0; from < 4; from++) {
            for (int to = 0; to < 4; to++) {
                int value = (from * 4 + to) % 10;
                check.due("rate(" + from + ", " + to + ", " + value + ")", t.rate(from, to, value), 1);
            }
        }
        for (int from = 0; from < 4; from++) {
            for (int to = 0; to < 4; to++) {
                String pair = "rate(" + from + ", " + to + ", ";
                check.due(pair + "9)", t.rate(from, to, 9), (from * 4 + to) % 10);
                check.due(pair + "0)", t.rate(from, to, 0), 9);
            }
        }
    }

    /** Two leaves with the states 0 and 1: the sum over the root's states of two rates' product. */
    private static void changesFromTheParentToTheNode() {
        BranchTrees t = new BranchTrees(Trees.code("0000"));
        t.attach(0, Trees.code("1111"));
        check.due("weight(0)", t.weight(0), 4);
        t.rate(0, 1, 3);
        check.due("weight(0), 0 to 1 is 3", t.weight(0), 6);
        t.rate(1, 0, 0);
        check.due("weight(0), 1 to 0 is 0", t.weight(0), 5);
        t.rate(1, 1, 9);
        check.due("weight(0), 1 to 1 is 9", t.weight(0), 5);
        t.rate(2, 1, 2);
        check.due("weight(0), 2 to 1 is 2", t.weight(0), 6);
        t.rate(0, 0, 2);
        check.due("weight(0), 0 to 0 is 2", t.weight(0), 9);
        check.due("least(0) does not look at rates", t.least(0), 1);
    }

    private static void refused(int from, int to, int value, int due) {
        String call = "rate(" + from + ", " + to + ", " + value + ")";
        check.keeps(1, call, t -> t.rate(from, to, value), due);
        check.keeps(7, call, t -> t.rate(from, to, value), due);
    }

    /** "-1 if from or to is not a state": the one, the other, and both. */
    private static void noState() {
        for (int state : Trees.NO_DIGITS) {
            for (int good = 0; good < 4; good++) {
                refused(state, good, 5, -1);
                refused(good, state, 5, -1);
            }
            refused(state, state, 5, -1);
        }
    }

    /** "-2 if rate is not in 0 .. 9": of every change; 0 and 9 are still good. */
    private static void outside() {
        for (int from = 0; from < 4; from++) {
            for (int to = 0; to < 4; to++) {
                for (int value : Trees.NO_COSTS) {
                    refused(from, to, value, -2);
                }
                BranchTrees t = Trees.grown(7);
                String pair = "rate(" + from + ", " + to + ", ";
                check.due(pair + "0)", t.rate(from, to, 0), Trees.rateOf(from, to));
                check.due(pair + "9)", t.rate(from, to, 9), 0);
                check.due(pair + "9) again", t.rate(from, to, 9), 9);
            }
        }
    }

    /** One rate is set, and no other: not that of the change back, nor that of another state. */
    private static void setsOneAlone() {
        for (int pair = 0; pair < 16; pair++) {
            BranchTrees t = Trees.grown(3);
            t.rate(pair / 4, pair % 4, 9);
            for (int other = 0; other < 16; other++) {
                int from = other / 4;
                int to = other % 4;
                int due = other == pair ? 9 : Trees.rateOf(from, to);
                check.due("rate(" + from + ", " + to + ", 0)", t.rate(from, to, 0), due);
            }
        }
    }

    /** "the tests are made in the order named". */
    private static void inTheOrderNamed() {
        for (int value : Trees.NO_COSTS) {
            refused(-1, 0, value, -1);
            refused(0, -1, value, -1);
            refused(4, 3, value, -1);
            refused(3, 4, value, -1);
            refused(4, 4, value, -1);
        }
    }

    public static void main(String[] args) {
        answersTheOneBefore();
        changesFromTheParentToTheNode();
        noState();
        outside();
        setsOneAlone();
        inTheOrderNamed();
        check.end();
    }
}
