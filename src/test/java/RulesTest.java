import java.nio.file.Files;
import java.nio.file.Path;
import java.util.Set;

// The rules of LANGUAGE.md that the compiler's tree of the class can show (not rule 7, that no call throws);
// and of each a small program that breaks it, so that a rule that isn't looked at any more is seen, too.
// Run from the project's root, as .ci/run does; or with the path of another source.
public final class RulesTest {
  private static int wrong = 0;

  public static void main(String[] args) throws Exception {
    String path = args.length > 0 ? args[0] : "src/main/java/CommitPrefixes.java";
    for (String broken : RuleBook.brokenBy("CommitPrefixes", Files.readString(Path.of(path)))) {
      wrong++;
      System.out.println(broken);
    }
    keptRules();
    classes();
    types();
    library();
    words();
    calls();
    room();
    System.out.println(wrong == 0 ? "all rules are kept" : wrong + " things are wrong");
    if (wrong != 0) System.exit(1);
  }

  private static String program(String body) {
    return "import java.util.ArrayList; public final class A { " + body + " }";
  }

  /** A program that breaks this rule, and this one alone. */
  private static void breaks(int rule, String body) throws Exception {
    Set<String> broken = RuleBook.brokenBy("A", program(body));
    boolean seen = !broken.isEmpty();
    for (String line : broken) seen &= line.startsWith("rule " + rule + ":");
    if (!seen) {
      wrong++;
      System.out.println("rule " + rule + " is broken by " + body + ", but told was " + broken);
    }
  }

  private static void keeps(String body) throws Exception {
    Set<String> broken = RuleBook.brokenBy("A", program(body));
    if (!broken.isEmpty()) {
      wrong++;
      System.out.println("no rule is broken by " + body + ", but told was " + broken);
    }
  }

  private static void keptRules() throws Exception {
    keeps("");
    keeps("private static final int[] N = {1, 2}; public int f() { return N[1]; }");
    keeps("private enum E { X, Y; } private static final E[] ALL = E.values(); public int f() { return ALL.length; }");
    keeps("private final ArrayList<Integer> l = new ArrayList<>(); public int f() { return l.isEmpty() ? 0 : l.get(0); }");
    keeps("private final int[][] n = new int[2][3]; public long f() { return Math.max(n[1][2], Long.bitCount(3L)); }");
    keeps("public int f(int n) { int k = n; while (k > 0 && k % 3 != 0) k--; return k; }");
    keeps("public boolean f(String s) { return s.equals(\"a\") && s.length() == 1; }");
    keeps("private final B b = new C(); public int f() { return b.g(); }"
        + " private abstract static class B { abstract int g(); } private static final class C extends B { int g() { return 1; } }");
    keeps(chain(8));
  }

  private static void classes() throws Exception {
    breaks(1, "int f() { return 1; }");
    breaks(1, "protected int n = 1;");
    breaks(1, "public static class B { }");
    breaks(2, "private class B { }");
    breaks(2, "private interface I { int g(); } public int f() { I i = () -> 1; return i.g(); }");
    breaks(2, "private interface I { int g(); } private static int h() { return 1; } public int f() { I i = A::h; return i.g(); }");
    breaks(2, "public int f() { class B { int n = 1; } return 1; }");
    breaks(2, "private enum E { X; final int[] n = {1}; }");
    StringBuilder fields = new StringBuilder();
    for (int i = 0; i < 21; i++) fields.append("private int f").append(i).append(" = 0; ");
    breaks(11, fields.toString());
    StringBuilder inside = new StringBuilder();
    for (int i = 0; i < 12; i++) inside.append("private static class B").append(i).append(" { } ");
    breaks(11, inside.toString());
  }

  private static void types() throws Exception {
    breaks(3, "private final String[] s = null;");
    breaks(3, "private final int[][][] n = null;");
    breaks(3, "private final Object o = null;");
    breaks(3, "public char f() { return (char) 7 == '\\u0100' ? 'a' : 'b'; }");
    breaks(5, "private static int n = 1;");
    breaks(5, "private static final int[] N = {1}; public int f() { N[0] = 2; return N[0]; }");
    breaks(5, "private static final int[] N = {1}; public int f() { N[0]++; return N[0]; }");
    breaks(5, "private static final int[] N = new int[3];");
    breaks(5, "private static final int N; static { N = 1; }");
    breaks(5, "private static final B ONE = new B(); private static final class B { }");
  }

  private static void library() throws Exception {
    breaks(4, "public int f(int n) { return Math.addExact(n, n); }");
    breaks(4, "public long f() { return System.nanoTime(); }");
    breaks(4, "public int f(String s) { return s.hashCode(); }");
    breaks(4, "public int f(String s) { return s.trim().length(); }");
    breaks(4, "public int f(int[] n) { java.util.Arrays.sort(n); return n.length; }");
    breaks(4, "public double f(double d) { return Math.abs(d); }");
    breaks(4, "public String f() { return \"\\u00e9\"; }");
    breaks(4, "private final boolean b = new Object() == null;");
  }

  private static void words() throws Exception {
    breaks(6, "public int f() { throw null; }");
    breaks(6, "public int f() { try { return 1; } finally { } }");
    breaks(6, "public int f() { synchronized (this) { return 1; } }");
    breaks(6, "public synchronized int f() { return 1; }");
    breaks(6, "public int f() { assert true; return 1; }");
    breaks(6, "public int f() throws IllegalStateException { return 1; }");
    breaks(6, "public boolean f(String a, String b) { return a == b; }");
    breaks(6, "public boolean f(Integer a, Integer b) { return a != b; }");
    breaks(6, "public String toString() { return \"a\"; }");
    breaks(6, "private B b = null; private static class B { } private static class C extends B { } public boolean f() { C c = (C) b; return c == null; }");
    breaks(10, "public String f(int n) { return \"a\" + n; }");
    breaks(10, "public String f(String s) { String t = s; t += s; return t; }");
  }

  /** f calls g1, that calls g2, and so on: so many methods are open at once. */
  private static String chain(int methods) {
    StringBuilder b = new StringBuilder("public int f() { return g1(); } ");
    for (int i = 1; i < methods - 1; i++) b.append("private int g").append(i).append("() { return g").append(i + 1).append("(); } ");
    return b.append("private int g").append(methods - 1).append("() { return 1; }").toString();
  }

  private static void calls() throws Exception {
    breaks(8, "public int f(int n) { return n > 0 ? f(n - 1) : 0; }");
    breaks(8, "public int f(int n) { return n > 0 ? g(n - 1) : 0; } private int g(int n) { return f(n); }");
    breaks(8, "private final B b = new C(); public int f() { return b.g(); } private abstract static class B { abstract int g(); }"
        + " private static final class C extends B { final B b = null; int g() { return b == null ? 0 : b.g(); } }");
    breaks(9, "public int f() { int n = 0; for (;;) { n++; if (n > 9) return n; } }");
    breaks(9, "public int f() { int n = 0; while (true) { n++; if (n > 9) return n; } }");
    breaks(9, "private boolean on = true; public int f() { while (on) { on = false; } return 1; }");
    breaks(9, "public int f(int n) { int k = n; do { k--; } while (k != 0); return k; }");
    breaks(11, chain(9));
    breaks(11, "public int f(int a, int b, int c, int d, int e, int g, int h, int i) { return a; }");
    breaks(11, "public int f() {" + "\n".repeat(60) + "return 1; }");
  }

  private static void room() throws Exception {
    breaks(12, "public int f() { int[] n = new int[3]; return n.length; }");
    breaks(12, "private static final class B { } public boolean f() { return new B() == null; }");
    breaks(12, "private enum E { X; } public int f() { return E.values().length; }");
    breaks(12, "private final ArrayList<Integer> l = new ArrayList<>(); public int f() { int n = 0; for (int k : l) n += k; return n; }");
  }
}
