import java.util.ArrayList;
import java.util.List;
import java.util.function.ToLongFunction;

/**
 * Every method with every mix of arguments at their edges, on a tree of each number of leaves, beside the model:
 * so every order of refusals, and that no question and no refused call changes anything.
 */
final class GridTest {
    private static final int[] NODES = {
        Integer.MIN_VALUE, -1, 0, 1, 2, 3, 4, 5, 6, 7, 8, 9, 10, 11, 12, 13, 14, Integer.MAX_VALUE,
    };
    private static final int[] CODES = {Integer.MIN_VALUE, -1, 0, 1, 114, 254, 255, 256, Integer.MAX_VALUE};
    private static final int[] DIGITS = {Integer.MIN_VALUE, -1, 0, 1, 2, 3, 4, Integer.MAX_VALUE};
    private static final int[] VALUES = {Integer.MIN_VALUE, -1, 0, 9, 10, Integer.MAX_VALUE};
    /** With those that grow a tree and those that ask all of it, no object has more than 512 calls. */
    private static final int CALLS_ON_AN_OBJECT = 100;
    private static final Check check = new Check("GridTest");

    private record Call(String name, ToLongFunction<BranchTrees> made, ToLongFunction<Model> due) {
    }

    private GridTest() {
    }

    private static void addChanges(List<Call> calls) {
        for (int x : NODES) {
            for (int code : CODES) {
                String at = "(" + x + ", " + code + ")";
                calls.add(new Call("attach" + at, t -> t.attach(x, code), m -> m.attach(x, code)));
                calls.add(new Call("mutate" + at, t -> t.mutate(x, code), m -> m.mutate(x, code)));
            }
            for (int y : NODES) {
                String at = "(" + x + ", " + y + ")";
                calls.add(new Call("swap" + at, t -> t.swap(x, y), m -> m.swap(x, y)));
                calls.add(new Call("move" + at, t -> t.move(x, y), m -> m.move(x, y)));
            }
        }
        for (int from : DIGITS) {
            for (int to : DIGITS) {
                for (int value : VALUES) {
                    String at = "(" + from + ", " + to + ", " + value + ")";
                    calls.add(new Call("cost" + at, t -> t.cost(from, to, value), m -> m.cost(from, to, value)));
                    calls.add(new Call("rate" + at, t -> t.rate(from, to, value), m -> m.rate(from, to, value)));
                }
            }
        }
    }

    private static void addQuestions(List<Call> calls) {
        calls.add(new Call("leaves()", t -> t.leaves(), m -> m.leaves()));
        calls.add(new Call("root()", t -> t.root(), m -> m.root()));
        calls.add(new Call("total()", t -> t.total(), m -> m.total()));
        for (int x : NODES) {
            calls.add(new Call("parent(" + x + ")", t -> t.parent(x), m -> m.parent(x)));
            calls.add(new Call("leavesBelow(" + x + ")", t -> t.leavesBelow(x), m -> m.leavesBelow(x)));
            for (int y : NODES) {
                String at = "(" + x + ", " + y + ")";
                calls.add(new Call("meet" + at, t -> t.meet(x, y), m -> m.meet(x, y)));
                calls.add(new Call("keptBy" + at, t -> t.keptBy(x, y), m -> m.keptBy(x, y)));
            }
            for (int site : DIGITS) {
                String at = "(" + x + ", " + site + ")";
                calls.add(new Call("states" + at, t -> t.states(x, site), m -> m.states(x, site)));
            }
        }
        for (int site : DIGITS) {
            calls.add(new Call("least(" + site + ")", t -> t.least(site), m -> m.least(site)));
            calls.add(new Call("ways(" + site + ")", t -> t.ways(site), m -> m.ways(site)));
            calls.add(new Call("weight(" + site + ")", t -> t.weight(site), m -> m.weight(site)));
        }
        for (int code : CODES) {
            calls.add(new Call("bestPlace(" + code + ")", t -> t.bestPlace(code), m -> m.bestPlace(code)));
        }
    }

    /** A change that is made: the new tree, costs and rates beside the model's. */
    private static void changed(int leaves, Call call) {
        BranchTrees t = Trees.grown(leaves);
        Model m = Trees.grownModel(leaves);
        String name = call.name() + " of " + leaves + " leaves";
        check.due(name, call.made().applyAsLong(t), call.due().applyAsLong(m));
        check.due("leaves() after " + name, t.leaves(), m.leaves());
        check.due("root() after " + name, t.root(), m.root());
        for (int x = 0; x < 14; x++) {
            check.due("parent(" + x + ") after " + name, t.parent(x), m.parent(x));
        }
        for (int site = 0; site < 4; site++) {
            check.due("least(" + site + ") after " + name, t.least(site), m.least(site));
            check.due("ways(" + site + ") after " + name, t.ways(site), m.ways(site));
            check.due("weight(" + site + ") after " + name, t.weight(site), m.weight(site));
        }
    }

    /** Questions and refused calls, some on each object, all of which is asked after them. */
    private static void unchanged(int leaves, List<Call> calls) {
        Model m = Trees.grownModel(leaves);
        for (int first = 0; first < calls.size(); first += CALLS_ON_AN_OBJECT) {
            BranchTrees t = Trees.grown(leaves);
            List<Call> some = calls.subList(first, Math.min(first + CALLS_ON_AN_OBJECT, calls.size()));
            for (Call call : some) {
                String name = call.name() + " of " + leaves + " leaves";
                check.due(name, call.made().applyAsLong(t), call.due().applyAsLong(m));
            }
            check.kept(leaves, some.get(0).name() + " .. " + some.get(some.size() - 1).name(), t);
        }
    }

    public static void main(String[] args) {
        List<Call> changes = new ArrayList<>();
        addChanges(changes);
        for (int leaves = 1; leaves <= 7; leaves++) {
            List<Call> unchanging = new ArrayList<>();
            addQuestions(unchanging);
            for (Call call : changes) {
                if (call.due().applyAsLong(Trees.grownModel(leaves)) < 0) {
                    unchanging.add(call);
                } else {
                    changed(leaves, call);
                }
            }
            unchanged(leaves, unchanging);
        }
        check.end();
    }
}
