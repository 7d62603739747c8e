import java.io.IOException;
import java.nio.file.Files;
import java.nio.file.Path;
import java.util.Set;

/** The class keeps to LANGUAGE.md as far as its source tells it, and what breaks a rule would be found. */
public final class LanguageTest {
    private static final Check check = new Check();

    public static void main(String[] args) throws IOException {
        check.same("what LANGUAGE.md refuses", LanguageRules.brokenBy(
                Files.readString(Path.of("src/main/java/MixedRules.java"))).toString(), "[]");
        whatIsFine();
        whatIsRefused();
        howManyAndHowDeep();
        check.end();
    }

    private static String classOf(String members) {
        return "public final class MixedRules { " + members + " }";
    }

    private static void fine(String members) throws IOException {
        check.same("what is refused in " + members, LanguageRules.brokenBy(classOf(members)).toString(), "[]");
    }

    /** This rule is broken by the members, and no other one. */
    private static void broken(int rule, String members) throws IOException {
        brokenIn(rule, classOf(members));
    }

    private static void brokenIn(int rule, String source) throws IOException {
        Set<String> found = LanguageRules.brokenBy(source);
        boolean isSo = !found.isEmpty();
        for (String one : found) {
            isSo &= one.startsWith("rule " + rule + ":");
        }
        check.due("rule " + rule + " is broken by " + source + ", found is " + found + "; this", isSo ? 1 : 0, 1);
    }

    private static void whatIsFine() throws IOException {
        fine("private static final int[] ROW = {1, 2}; public int at(int i) { return i >= 0 && i < 2 ? -ROW[i] : ~ROW[0]; }");
        fine("private static final class Own { final int[][] rows; Own() { rows = new int[2][2]; } int half(int n) { return n / 2; } }"
                + " private final Own own; public MixedRules() { own = new Own(); }");
        fine("public int most(int a, int b) { int n = 0; while (n < a && n < 9) { n++; } return Math.max(n, (int) (long) b); }");
        fine("private static boolean same(String a, String b) { return a.equals(b) && a.length() == b.length(); }");
    }

    private static void whatIsRefused() throws IOException {
        broken(2, "private final class Own { }");
        broken(2, "public int f() { final class Own { } return 1; }");
        broken(2, "private interface Own { int f(int n); } private static int g(Own own) { return own.f(1); }"
                + " public int h() { return g(n -> n); }");
        broken(3, "private Object kept;");
        broken(3, "private final boolean[][] rows; public MixedRules() { rows = new boolean[2][2]; }");
        broken(3, "private final int[][][] rows; public MixedRules() { rows = new int[2][2][2]; }");
        broken(3, "private Long kept;");
        broken(4, "public long f() { return System.nanoTime(); }");
        broken(4, "public int f(int a) { return Math.addExact(a, 1); }");
        broken(4, "public int f(String a) { return a.hashCode(); }");
        brokenIn(4, "import java.util.Map; " + classOf(""));
        broken(5, "private static int kept;");
        broken(5, "private static final int[] ROW = new int[3];");
        broken(5, "private static final int[] ROW = {1}; public void f() { ROW[0] = 2; }");
        broken(5, "private static final int[] ROW = {1}; public void f() { ROW[0]++; }");
        broken(5, "private static final int[] ROW = {1}; public void f() { ROW[0] += 2; }");
        broken(5, "private static final int N; static { N = 1; }");
        broken(6, "public int f() { throw null; }");
        broken(6, "public int f(int a) { try { return a; } finally { a++; } }");
        broken(6, "public int f(int a) { assert a > 0; return a; }");
        broken(6, "public int f() { synchronized (this) { return 1; } }");
        broken(6, "public boolean f(String a, String b) { return a == b; }");
        broken(6, "public String f(String a) { return (String) a; }");
        broken(7, "public int f(int a, int b) { return a / b; }");
        broken(7, "public int f(int a, int b) { return a % b; }");
        broken(7, "public int f(int a, int b) { a /= b; return a; }");
        broken(8, "private static int f(int n) { return n < 1 ? 0 : g(n - 1); } private static int g(int n) { return f(n); }");
        broken(9, "public int f(int a) { while (true) { if (a++ > 9) { return a; } } }");
        broken(9, "public int f(int a) { for (;;) { if (a++ > 9) { return a; } } }");
        broken(10, "public String f(String a) { return a + 1; }");
        broken(10, "public String f(String a) { a += 1; return a; }");
        broken(12, "public int f() { int[] row = new int[3]; return row.length; }");
        broken(12, "private static class Own { }");
    }

    private static String numbered(int count, String one) {
        StringBuilder all = new StringBuilder();
        for (int i = 1; i <= count; i++) {
            all.append(one.replace("NEXT", "" + (i + 1)).replace("THIS", "" + i));
        }
        return all.toString();
    }

    private static void howManyAndHowDeep() throws IOException {
        String chain = "private static int fTHIS() { return fNEXT(); } ";
        fine(numbered(7, chain) + "private static int f8() { return 1; }");
        broken(11, numbered(8, chain) + "private static int f9() { return 1; }");
        fine("public int f(int a1" + numbered(6, ", int aNEXT") + ") { return a1; }");
        broken(11, "public int f(int a1" + numbered(7, ", int aNEXT") + ") { return a1; }");
        fine("public int f() {" + "\n".repeat(59) + "return 1; }");
        broken(11, "public int f() {" + "\n".repeat(60) + "return 1; }");
        fine(numbered(11, "private static final class OwnTHIS { } "));
        broken(11, numbered(12, "private static final class OwnTHIS { } "));
        fine(numbered(20, "private int aTHIS; "));
        broken(11, numbered(21, "private int aTHIS; "));
    }
}
