import java.lang.reflect.Constructor;
import java.lang.reflect.Field;
import java.lang.reflect.Method;
import java.lang.reflect.Modifier;
import java.util.Set;
import java.util.TreeSet;

/** The public face of the document, and nothing else that can be seen from outside. */
final class FaceTest {
    private static final Check check = new Check("FaceTest");
    private static final String[] FACE = {
        "public BranchTrees(int)",
        "public int BranchTrees.attach(int,int)",
        "public int BranchTrees.bestPlace(int)",
        "public int BranchTrees.cost(int,int,int)",
        "public int BranchTrees.keptBy(int,int)",
        "public int BranchTrees.least(int)",
        "public int BranchTrees.leaves()",
        "public int BranchTrees.leavesBelow(int)",
        "public int BranchTrees.meet(int,int)",
        "public int BranchTrees.move(int,int)",
        "public int BranchTrees.mutate(int,int)",
        "public int BranchTrees.parent(int)",
        "public int BranchTrees.rate(int,int,int)",
        "public int BranchTrees.root()",
        "public int BranchTrees.states(int,int)",
        "public int BranchTrees.swap(int,int)",
        "public int BranchTrees.total()",
        "public int BranchTrees.ways(int)",
        "public long BranchTrees.weight(int)",
    };

    private FaceTest() {
    }

    private static Set<String> visibleMembers() {
        Set<String> visible = new TreeSet<>();
        for (Constructor<?> c : BranchTrees.class.getDeclaredConstructors()) {
            visible.add(c.toString());
        }
        for (Method m : BranchTrees.class.getDeclaredMethods()) {
            if (!Modifier.isPrivate(m.getModifiers())) {
                visible.add(m.toString());
            }
        }
        for (Field f : BranchTrees.class.getDeclaredFields()) {
            if (!Modifier.isPrivate(f.getModifiers())) {
                visible.add(f.toString());
            }
        }
        return visible;
    }

    public static void main(String[] args) {
        check.same("the visible members", visibleMembers().toString(), new TreeSet<>(Set.of(FACE)).toString());
        int modifiers = BranchTrees.class.getModifiers();
        check.due("public and final", modifiers, Modifier.PUBLIC | Modifier.FINAL);
        check.due("nested classes", BranchTrees.class.getDeclaredClasses().length, 0);
        check.end();
    }
}
