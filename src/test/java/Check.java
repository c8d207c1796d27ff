import java.util.function.ToLongFunction;

/** Counts the answers of a test, prints those that are not due, and ends the test. */
final class Check {
    private final String test;
    /** All that can be asked of Trees.grown(leaves), at the index leaves. */
    private final String[] untouched = new String[8];
    private int made = 0;
    private int wrong = 0;

    Check(String test) {
        this.test = test;
    }

    void due(String call, long got, long want) {
        made++;
        if (got != want) {
            wrong++;
            System.out.println(test + ": " + call + " answered " + got + ", due is " + want);
        }
    }

    void same(String what, String got, String want) {
        made++;
        if (!got.equals(want)) {
            wrong++;
            System.out.println(test + ": " + what + "\n  is     " + got + "\n  due is " + want);
        }
    }

    /** Makes one call on a new tree of so many leaves, for its answer. */
    void answers(int leaves, String call, ToLongFunction<BranchTrees> made, long want) {
        due(call + " of " + leaves + " leaves", made.applyAsLong(Trees.grown(leaves)), want);
    }

    /** Makes one call that changes nothing on a new tree of so many leaves, and asks all that can be asked after it. */
    void keeps(int leaves, String call, ToLongFunction<BranchTrees> made, long want) {
        BranchTrees t = Trees.grown(leaves);
        due(call + " of " + leaves + " leaves", made.applyAsLong(t), want);
        kept(leaves, call, t);
    }

    /** Asks all that can be asked of a tree that is to be as Trees.grown(leaves) made it; spoils it. */
    void kept(int leaves, String call, BranchTrees t) {
        if (untouched[leaves] == null) {
            untouched[leaves] = Trees.all(Trees.grown(leaves));
        }
        same("all of " + leaves + " leaves after " + call, Trees.all(t), untouched[leaves]);
    }

    int wrong() {
        return wrong;
    }

    void end() {
        System.out.println(test + ": " + made + " answers, " + wrong + " of them not as due");
        if (wrong != 0) {
            System.exit(1);
        }
    }
}
