import java.nio.file.Files;
import java.nio.file.Path;
import java.util.List;

/**
 * The program's text keeps to LANGUAGE.md, and Rules sees it when it does not:
 * each rule that shows in the text is broken once in a copy of the program.
 */
public final class LanguageTest {
    private static final Path PROGRAM = Path.of("src/main/java/FlameTree.java");

    private static final Answers answers = new Answers();

    private static String text;

    public static void main(String[] args) throws Exception {
        text = Files.readString(PROGRAM);
        List<String> faults = Rules.faultsOf("FlameTree", text);
        answers.dueTrue("no rule is broken: " + faults, faults.isEmpty());
        brokenMembers();
        brokenTypesAndNames();
        brokenArraysAndConstants();
        brokenStatements();
        brokenLoopsAndCalls();
        answers.end();
    }

    private static void told(int rule, String by, String other) throws Exception {
        answers.dueTrue("rule " + rule + " is told broken by " + by,
                Rules.faultsOf("FlameTree", other).stream().anyMatch(f -> f.startsWith("rule " + rule + ":")));
    }

    private static void broken(int rule, String from, String to) throws Exception {
        answers.dueTrue("the program has " + from, text.contains(from));
        told(rule, to, text.replace(from, to));
    }

    /** Puts a member, or several, at the end of the class. */
    private static void brokenByMember(int rule, String member) throws Exception {
        told(rule, member, text.substring(0, text.lastIndexOf('}')) + member + "\n}\n");
    }

    /** Puts statements at the start of leave. */
    private static void brokenByStatement(int rule, String statement) throws Exception {
        broken(rule, "public int leave() {", "public int leave() { " + statement);
    }

    private static void brokenMembers() throws Exception {
        broken(1, "/** Samples", "package flame; /** Samples");
        broken(1, "public final class", "public class");
        broken(1, "private int samples", "int samples");
        broken(1, "private boolean holdsEdge", "boolean holdsEdge");
        broken(1, "private boolean holdsEdge", "protected boolean holdsEdge");
        brokenByMember(1, "private int total(int path) { return path; }");
        brokenByMember(1, "private static final class Node { }");
        brokenByMember(1, "} enum Kind { ONE");
        brokenByMember(1, "static { }");
    }

    private static void brokenTypesAndNames() throws Exception {
        brokenByStatement(2, "double half = 0;");
        brokenByStatement(2, "String name;");
        brokenByStatement(2, "total(\"text\");");
        brokenByStatement(2, "Object it = new Object();");
        broken(2, "int[] stack = new int[MAX_DEPTH]", "int[][] stack = new int[MAX_DEPTH][]");
        broken(3, "/** Samples", "import java.util.List; /** Samples");
        brokenByStatement(3, "int least = Math.min(1, 2);");
        brokenByStatement(3, "depth = hashCode();");
        broken(3, "public final class FlameTree {", "public final class FlameTree extends Thread {");
    }

    private static void brokenArraysAndConstants() throws Exception {
        broken(4, "new int[MAX_DEPTH]", "new int[depth]");
        broken(4, "new int[MAX_DEPTH]", "{0, 0, 0, 0, 0, 0, 0, 0}");
        broken(4, "private final int[] stack", "private int[] stack");
        brokenByStatement(4, "if (stack == copies) return 0;");
        brokenByStatement(4, "if (stack == null) return 0;");
        brokenByStatement(4, "depth = (new int[8])[0];");
        brokenByMember(4, "private int[] row() { return stack; }");
        broken(5, "MAX_DEPTH = 8", "MAX_DEPTH = atLeastOne(8)");
        broken(5, "private static final int MAX_DEPTH", "private static int MAX_DEPTH");
        broken(5, "private static final int MAX_DEPTH", "private static final short MAX_DEPTH");
        brokenByMember(5, "private static final int[] ROW = new int[8];");
    }

    private static void brokenStatements() throws Exception {
        brokenByStatement(6, "throw problem;");
        brokenByStatement(6, "try { depth = 0; } finally { depth = 0; }");
        brokenByStatement(6, "synchronized (stack) { depth = 0; }");
        brokenByStatement(6, "assert depth > 0;");
        brokenByStatement(6, "Runnable it = () -> { };");
        brokenByStatement(6, "Runnable it = this::leave;");
        broken(6, "public int leave() {", "public int leave() throws Problem {");
        brokenByStatement(7, "depth = samples / depth;");
        brokenByStatement(7, "depth = samples % depth;");
    }

    private static void brokenLoopsAndCalls() throws Exception {
        brokenByStatement(8, "while (depth > 0) { depth = total(); }");
        brokenByStatement(8, "do { depth = 0; } while (depth > 0);");
        brokenByStatement(8, "for (;;) { depth = 0; }");
        brokenByStatement(8, "for (int i = 0; i < 8; i++) { i = 0; }");
        brokenByStatement(8, "for (int i = 0; i < depth; i++) { depth++; }");
        brokenByStatement(8, "for (int i = 0; i < 8 + i; i++) { depth = 0; }");
        brokenByStatement(8, "for (int i = 0; i >= 0; i++) { depth = 0; }");
        brokenByStatement(8, "for (int i = 0; i < 8; i--) { depth = 0; }");
        brokenByStatement(8, "leave();");
        brokenByMember(8, "private int a() { return b(); } private int b() { return a(); }");
        brokenByStatement(10, "edge(total(), 1);");
        brokenByStatement(10, "\n".repeat(60));
        brokenByMember(10, "private int a(int b, int c, int d, int e, int f, int g, int h, int i) { return 0; }");
        brokenByMember(10, "private int a() { return b(); } private int b() { return c(); }"
                + "private int c() { return d(); } private int d() { return e(); }"
                + "private int e() { return f(); } private int f() { return g(); }"
                + "private int g() { return 0; }");
        StringBuilder fields = new StringBuilder();
        for (int i = 0; i <= 40; i++) fields.append("private int field").append(i).append("; ");
        brokenByMember(10, fields.toString());
    }
}
