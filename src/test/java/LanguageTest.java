import java.io.IOException;
import java.nio.file.Files;
import java.nio.file.Path;
import java.util.Set;

/** The file keeps to LANGUAGE.md, as far as its text can tell; and what is outside the rules is noticed. */
public final class LanguageTest {
    private LanguageTest() {
    }

    public static void main(String[] args) throws IOException {
        Path project = Path.of(System.getProperty("project", "."));
        String source = Files.readString(project.resolve("src/main/java/TreePeers.java"));
        Check.text("what is outside LANGUAGE.md", Language.faults(source).toString(), "[]");
        Check.text("what is outside it in a small class", Language.faults(inside("int f(int a) { return a; }")).toString(), "[]");
        noticed(1, "package p; " + inside(""));
        noticed(1, inside("") + "class Other { }");
        noticed(4, "import java.util.HashMap; " + inside("int f() { return new HashMap<Integer, Integer>().size(); }"));
        members();
        statements();
        Check.end();
    }

    private static void members() throws IOException {
        noticed(2, inside("private class Inner { }"));
        noticed(2, inside("private interface Some { int f(); } private Some f() { return () -> 1; }"));
        noticed(3, inside("private double d = 1;"));
        noticed(3, inside("private int[][][] cube;"));
        noticed(5, inside("private static int state = 0;"));
        noticed(5, inside("private static final int[] ROW = {1}; private void f() { ROW[0] = 2; }"));
        noticed(5, inside("static { }"));
        noticed(6, inside("public String toString() { return \"\"; }"));
        noticed(6, inside("public TreePeers() { throw new java.util.NoSuchElementException(\"no\"); }"));
        noticed(11, inside("private int f(int a, int b, int c, int d, int e, int g, int h, int i) { return 0; }"));
        noticed(11, inside("private int f() { int a = 0; " + "\n a++;".repeat(60) + "\n return a; }"));
        noticed(11, inside(numbered("private static class C@ { } ", 12)));
        noticed(11, inside(numbered("private int f@; ", 21)));
        noticed(11, inside("public int f() { return g0(); } " + numbered("private int g@() { return g%(); } ", 8) + "private int g8() { return 0; }"));
        noticed(12, inside("private int a = f(); private static int f() { return 1; }"));
        noticed(12, inside("private void f() { for (int i = 0; i < 3; i++) { int[] a = new int[3]; } }"));
    }

    private static void statements() throws IOException {
        noticed(4, inside("private int f(int a) { return Math.addExact(a, 1); }"));
        noticed(4, inside("private long f() { return System.nanoTime(); }"));
        noticed(4, inside("private String f() { return \"\\u00e9\"; }"));
        noticed(6, inside("private void f() { throw new IllegalStateException(); }"));
        noticed(6, inside("private boolean f(String a, String b) { return a == b; }"));
        noticed(2, inside("private int f(int[] a) { try { return a[0]; } catch (RuntimeException e) { return 0; } }"));
        noticed(8, inside("int f(int a) { return a > 0 ? g(a - 1) : 0; } private int g(int a) { return f(a); }"));
        noticed(8, inside("private int f(int a) { return a > 0 ? f(a - 1) : 0; }"));
        noticed(9, inside("private void f() { while (true) { f(); } }"));
        noticed(9, inside("private void f() { for (;;) { f(); } }"));
        noticed(10, inside("private String f(String a) { return a + a; }"));
        noticed(10, inside("private int f(String a) { switch (a) { case \"b\": return 1; default: return 0; } }"));
    }

    private static String inside(String members) {
        return "public final class TreePeers { " + members + "\n}\n";
    }

    /** A member some times, @ being its number, % the next one. */
    private static String numbered(String member, int times) {
        StringBuilder s = new StringBuilder();
        for (int i = 0; i < times; i++) {
            s.append(member.replace("@", "" + i).replace("%", "" + (i + 1)));
        }
        return s.toString();
    }

    private static void noticed(int rule, String source) throws IOException {
        Set<String> faults = Language.faults(source);
        boolean found = faults.stream().anyMatch(f -> f.startsWith(rule + ": "));
        Check.is("rule " + rule + " is noticed in " + source + " beside " + faults, found, true);
    }
}
