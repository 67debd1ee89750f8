import java.io.IOException;
import java.nio.file.Files;
import java.nio.file.Path;
import java.util.List;

/**
 * The program keeps the rules of LANGUAGE.md that can be read off its file. Rule 1 is FaceTest's
 * too, and rule 7 is AnyCallTest's; rule 9 rules nothing out, and 11 follows from 3 and 5.
 * So that the reading can be trusted, small classes that break one rule each are read as well.
 */
public final class LanguageTest {
    private static final Path PROGRAM = Path.of("src", "main", "java", "HeadTail.java");

    public static void main(String[] args) throws IOException {
        theProgramKeepsThem();
        whatIsFineIsLetThrough();
        rule1IsSeen();
        rule2IsSeen();
        rule3IsSeen();
        rule4IsSeen();
        rule5IsSeen();
        rule6IsSeen();
        rule8IsSeen();
        rule10IsSeen();
        Check.end();
    }

    private static void theProgramKeepsThem() throws IOException {
        for (String each : broken(Files.readString(PROGRAM))) {
            Check.due("HeadTail.java breaks rule " + each, false, true);
        }
    }

    private static List<String> broken(String text) throws IOException {
        Source source = new Source(text);
        Check.due("compiles: " + text, source.compiles, true);
        return Rules.brokenBy(source);
    }

    private static String around(String members) {
        return "public final class HeadTail {\n" + members + "\n}\n";
    }

    private static void fine(String members) throws IOException {
        for (String each : broken(around(members))) {
            Check.due(members + " is said to break rule " + each, false, true);
        }
    }

    private static void breaks(int rule, String members) throws IOException {
        textBreaks(rule, around(members));
    }

    private static void textBreaks(int rule, String text) throws IOException {
        boolean seen = broken(text).stream().anyMatch(each -> each.startsWith(rule + ": "));
        Check.due("rule " + rule + " is seen to be broken by " + text, seen, true);
    }

    private static void whatIsFineIsLetThrough() throws IOException {
        fine("");
        fine("static final int N = 3; private final int[] a = new int[N]; private long[] b = new long[7];");
        fine("private final byte[] a; public HeadTail() { a = new byte[2]; f(); } private void f() { }");
        fine("int f(int n) { int k = 0; while (k < n && k < 9) { k++; } return k; }");
        fine("int f(int n) { int k = n; do { k -= 2; } while (k > 0); return k; }");
        fine("private int[] a = new int[3]; int f() { int[] b = a; return g(b); } int g(int[] c) { return c[0]; }");
        fine("private int[] a = new int[3]; int f() { int s = 0; for (int e : a) { s += e; } return s; }");
        fine("char f(long n) { return (char) (n >>> 3); }");
        fine("static final int N = 1; boolean f(short n) { return n == HeadTail.N; }");
        fine("int f(int n) { switch (n) { case 1: return 4; default: return n > 3 ? this.g() : 2; } }"
            + " int g() { return 5; }");
        fine("void a() { b(); } void b() { c(); } void c() { d(); } void d() { e(); } void e() { f(); } void f() { }");
    }

    private static void rule1IsSeen() throws IOException {
        textBreaks(1, "package p; public final class HeadTail { }");
        textBreaks(1, "final class HeadTail { }");
        textBreaks(1, "public class HeadTail { }");
        textBreaks(1, "public final class HeadTail { } class Other { }");
        textBreaks(1, "public final class HeadTail extends Thread { }");
        textBreaks(1, "public final class HeadTail implements java.io.Serializable { }");
        textBreaks(1, "public record HeadTail(int r) { }");
        breaks(1, "private static class Inner { }");
        breaks(1, "private interface Inner { }");
        breaks(1, "private enum Inner { A }");
        breaks(1, "public int f() { return 1; } private int f(int n) { return n; }");
    }

    private static void rule2IsSeen() throws IOException {
        breaks(2, "private float f;");
        breaks(2, "private double[] f = new double[2];");
        breaks(2, "int f(int n) { return (int) (n * 1.5); }");
        breaks(2, "int f(int n) { return (int) (double) n; }");
        breaks(2, "private int[][] a;");
        breaks(2, "private HeadTail other;");
        breaks(2, "void f(Object o) { }");
        breaks(2, "int f() { String s = \"a\"; return 1; }");
        breaks(2, "int f() { var s = \"a\"; return 1; }");
    }

    private static void rule3IsSeen() throws IOException {
        textBreaks(3, "import java.util.List; public final class HeadTail { }");
        breaks(3, "int f(int n) { return Math.max(n, 1); }");
        breaks(3, "int f() { return Integer.MAX_VALUE; }");
        breaks(3, "int f() { return java.util.Objects.hash(1); }");
        breaks(3, "int f() { return hashCode(); }");
        breaks(3, "private int[] a = new int[2]; int f() { int[] b = a.clone(); return b[0]; }");
        breaks(3, "@Override public String toString() { return \"\"; }");
    }

    private static void rule4IsSeen() throws IOException {
        breaks(4, "int f() { int[] a = new int[3]; return a[0]; }");
        breaks(4, "private int[] a = {1, 2};");
        breaks(4, "private int[] a = new int[] {1, 2};");
        breaks(4, "private int[] a = new int[0];");
        breaks(4, "private int n = 3; private int[] a = new int[n];");
        breaks(4, "private int[] a; public HeadTail(int n) { a = new int[n]; }");
        breaks(4, "private int[] a; public HeadTail(int n) { if (n > 2) { a = new int[2]; } }");
        breaks(4, "private int[] a; public HeadTail(int n) { int[] b = n > 2 ? new int[2] : a; }");
        breaks(4, "public HeadTail() { for (int k = 0; k < 2; k++) { int[] b = new int[2]; } }");
        breaks(4, "private int[] a = new int[2]; public HeadTail() { a = new int[2]; }");
        breaks(4, "private int[] a; public HeadTail() { f(); a = new int[2]; } private void f() { }");
        breaks(4, "private int[] a; public HeadTail() { a = new int[2]; f(a); } private void f(int[] b) { }");
        breaks(4, "private int[] a = new int[2]; private int[] f() { return a; }");
        breaks(4, "private int[] a = new int[2]; boolean f(int[] b) { return a == b; }");
        breaks(4, "private int[] a = new int[2]; boolean f() { return a != null; }");
        breaks(4, "private int[] a = new int[2]; void f(int[] b) { a = b; }");
        breaks(4, "private int[] a = new int[2]; void f(int[] b) { for (int k = 0; k < 2; k++) { b = a; } }");
        breaks(4, "void f() { new HeadTail(); }");
    }

    private static void rule5IsSeen() throws IOException {
        breaks(5, "private static int n;");
        breaks(5, "private static final int[] A = new int[3];");
        breaks(5, "private static final boolean YES = true;");
        breaks(5, "private static final int N; static { N = 3; }");
        breaks(5, "private static int n = 3;");
    }

    private static void rule6IsSeen() throws IOException {
        breaks(6, "void f() { throw new RuntimeException(); }");
        breaks(6, "void f() { try { f(); } finally { f(); } }");
        breaks(6, "void f() { synchronized (this) { } }");
        breaks(6, "void f(int n) { assert n > 1; }");
        breaks(6, "boolean f(Object o) { return o instanceof HeadTail; }");
        breaks(6, "Runnable f() { return () -> { }; }");
        breaks(6, "Runnable f() { return this::f; }");
        breaks(6, "void f(Object o) { HeadTail h = (HeadTail) o; }");
        breaks(6, "void f() throws Exception { }");
    }

    private static void rule8IsSeen() throws IOException {
        breaks(8, "int f(int n) { return f(n - 1); }");
        breaks(8, "void f() { g(); } void g() { h(); } void h() { f(); }");
        breaks(8, "void f() { while (true) { } }");
        breaks(8, "void f() { for (;;) { } }");
        breaks(8, "void f(boolean more) { while (more) { } }");
        breaks(8, "void f(int n) { int k = 0; while (n < 3) { k++; } }");
        breaks(8, "void f(int n, boolean more) { while (n < 3 || more) { n++; } }");
        breaks(8, "void f(int n) { do { n++; } while (g()); } boolean g() { return true; }");
    }

    private static void rule10IsSeen() throws IOException {
        breaks(10, "void f(int a, int b, int c, int d, int e, int f, int g, int h) { }");
        breaks(10, "int f(int n) { return f(g(n)); } int g(int n) { return n; }");
        breaks(10, "int f(int n) { return g(1 + h()); } int g(int n) { return n; } int h() { return 1; }");
        breaks(10, "void a() { b(); } void b() { c(); } void c() { d(); } void d() { e(); } void e() { f(); }"
            + " void f() { g(); } void g() { }");
        breaks(10, "void f() {" + "\n".repeat(70) + "}");
        StringBuilder fields = new StringBuilder();
        for (int n = 0; n < 45; n++) {
            fields.append("private int n").append(n).append(";\n");
        }
        breaks(10, fields.toString());
    }
}
