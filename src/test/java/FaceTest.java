import java.lang.reflect.Constructor;
import java.lang.reflect.Field;
import java.lang.reflect.Method;
import java.lang.reflect.Modifier;
import java.util.TreeSet;

/** The public face is the one of the document, and nothing else can be seen. */
public final class FaceTest {
    public static void main(String[] args) {
        Answers answers = new Answers();
        answers.dueTrue("the class is public and final",
                Modifier.isPublic(FlameTree.class.getModifiers())
                        && Modifier.isFinal(FlameTree.class.getModifiers()));

        TreeSet<String> want = new TreeSet<>();
        want.add("public FlameTree()");
        for (String face : new String[] {
                "call(int)", "leave()", "sample(int)", "total()", "own()", "hottest()",
                "inclusive(int)", "exclusive(int)", "edge(int,int)", "paths(int)", "deepest(int)"}) {
            want.add("public int FlameTree." + face);
        }
        TreeSet<String> got = visibleMembers();
        answers.dueTrue("visible members " + got + " are " + want, got.equals(want));
        answers.end();
    }

    private static TreeSet<String> visibleMembers() {
        TreeSet<String> seen = new TreeSet<>();
        for (Constructor<?> c : FlameTree.class.getDeclaredConstructors()) {
            if (!Modifier.isPrivate(c.getModifiers())) seen.add(c.toString());
        }
        for (Method m : FlameTree.class.getDeclaredMethods()) {
            if (!Modifier.isPrivate(m.getModifiers())) seen.add(m.toString());
        }
        for (Field f : FlameTree.class.getDeclaredFields()) {
            if (!Modifier.isPrivate(f.getModifiers())) seen.add(f.toString());
        }
        return seen;
    }
}
