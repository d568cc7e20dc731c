import java.lang.reflect.Constructor;
import java.lang.reflect.Field;
import java.lang.reflect.Method;
import java.lang.reflect.Modifier;
import java.nio.file.Files;
import java.nio.file.Path;
import java.util.List;
import java.util.TreeSet;

/** The public face is the one of the document, and nothing else can be seen. */
public final class FaceTest {
    private static final Path DOCUMENT = Path.of("../shared/DOC.md");

    // As "The public face" of the document gives it, line by line.
    private static final String[] FACE = {
        "public final class FlameTree",
        "public FlameTree()",
        "public int call(int function)",
        "public int leave()",
        "public int sample(int weight)",
        "public int total()",
        "public int own()",
        "public int hottest()",
        "public int inclusive(int function)",
        "public int exclusive(int function)",
        "public int edge(int caller, int callee)",
        "public int paths(int weight)",
        "public int deepest(int weight)",
    };

    private static final Answers answers = new Answers();

    public static void main(String[] args) throws Exception {
        same("the face in the document", faceInTheDocument(), new TreeSet<>(List.of(FACE)));
        same("what can be seen", visible(), faceWithoutNames());
        nothingElseIsInherited();
        answers.dueTrue("no nested class", FlameTree.class.getDeclaredClasses().length == 0);
        answers.dueTrue("no package", FlameTree.class.getPackageName().isEmpty());
        answers.end();
    }

    private static void same(String what, TreeSet<String> got, TreeSet<String> want) {
        answers.dueTrue(what + " " + got + " is " + want, got.equals(want));
    }

    private static TreeSet<String> faceInTheDocument() throws Exception {
        TreeSet<String> lines = new TreeSet<>();
        boolean inside = false;
        for (String line : Files.readAllLines(DOCUMENT)) {
            if (line.startsWith("```")) inside = line.equals("```java");
            else if (inside && !line.equals("}")) lines.add(line.replaceAll("[;{]", "").strip());
        }
        return lines;
    }

    private static TreeSet<String> faceWithoutNames() {
        TreeSet<String> lines = new TreeSet<>();
        for (String line : FACE) lines.add(line.replaceAll("int \\w+([,)])", "int$1").replace(", ", ","));
        return lines;
    }

    private static TreeSet<String> visible() {
        TreeSet<String> seen = new TreeSet<>();
        seen.add(FlameTree.class.toGenericString());
        for (Constructor<?> c : FlameTree.class.getDeclaredConstructors()) {
            if (!Modifier.isPrivate(c.getModifiers())) seen.add(c.toString());
        }
        for (Method m : FlameTree.class.getDeclaredMethods()) {
            if (!Modifier.isPrivate(m.getModifiers())) {
                seen.add(m.toString().replace("FlameTree.", ""));
            }
        }
        for (Field f : FlameTree.class.getDeclaredFields()) {
            if (!Modifier.isPrivate(f.getModifiers())) seen.add(f.toString());
        }
        return seen;
    }

    private static void nothingElseIsInherited() {
        answers.dueTrue("no class above but Object", FlameTree.class.getSuperclass() == Object.class);
        answers.dueTrue("no interface", FlameTree.class.getInterfaces().length == 0);
    }
}
