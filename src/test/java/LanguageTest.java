import java.io.IOException;
import java.nio.file.Files;
import java.nio.file.Path;
import java.util.List;

/** LANGUAGE.md: the source has no breach, and each kind of breach would be seen if it were there. */
public final class LanguageTest {
    private static final Path SOURCE = Path.of("src/main/java/InductChecker.java");

    public static void main(String[] args) throws IOException {
        List<String> breaches = Language.breaches(Files.readString(SOURCE));
        Due.is("breaches " + breaches, breaches.size(), 0);
        nothingInPlainCode();
        oneClass();
        types();
        library();
        arrays();
        constants();
        statements();
        divisors();
        loops();
        calls();
        sizes();
        Due.end();
    }

    private static void whole(int rule, String source) throws IOException {
        List<String> breaches = Language.breaches(source);
        boolean seen = breaches.stream().anyMatch(breach -> breach.startsWith("rule " + rule + ":"));
        Due.is("a breach of rule " + rule + " is seen in " + source + " (" + breaches + ")", seen, true);
    }

    private static String inClass(String members) {
        return "public final class InductChecker { " + members + " }";
    }

    private static void members(int rule, String members) throws IOException {
        whole(rule, inClass(members));
    }

    private static void statement(int rule, String statement) throws IOException {
        members(rule, "private int g; private final int[] h = new int[3]; private void f(int p) { " + statement + " }");
    }

    // Without this, a Language that finds fault with everything would pass all that follows.
    private static void nothingInPlainCode() throws IOException {
        String plain = inClass("private static final long BIG = 1L << 40; private static final int SIX = 6;"
            + " private final int[] a = new int[SIX]; private final boolean[] b = new boolean[2]; private char c;"
            + " public InductChecker(int n) { this.c = 'c'; f(n, a); }"
            + " private int f(int p, int[] q) { for (int i = 0; i <= p; i++) { q[p & 1] += (int) BIG % 3; }"
            + " for (int i = 1; i < SIX; i++) { a[i] = q.length / SIX; } switch (p) { case 1: return 1; default: }"
            + " int r = g(); b[1] = r == 2; return b[1] ? -r : ~r; }"
            + " private int g() { return 2; }");
        List<String> breaches = Language.breaches(plain);
        Due.is("breaches " + breaches, breaches.size(), 0);
    }

    private static void oneClass() throws IOException {
        whole(1, "package a; " + inClass(""));
        whole(1, inClass("") + " class Other { }");
        members(1, "private class Inner { }");
        members(1, "private enum Inner { A }");
        members(1, "private record Inner(int a) { }");
    }

    private static void types() throws IOException {
        members(2, "private double a;");
        members(2, "private float[] a = new float[2];");
        members(2, "private String a;");
        members(2, "private Object a() { return 1; }");
        members(2, "private void a(Integer b) { }");
        members(2, "private final int[][] a = new int[2][2];");
        statement(2, "double a = p;");
        statement(2, "var a = p;");
        statement(2, "g = p > 1.5 ? 1 : 0;");
        statement(2, "g = p + \"\" == \"1\" ? 1 : 0;");
    }

    private static void library() throws IOException {
        whole(3, "import java.util.List; " + inClass(""));
        statement(3, "g = Math.abs(p);");
        statement(3, "g = Integer.MAX_VALUE;");
        statement(3, "g = hashCode();");
        statement(3, "g = super.hashCode();");
        statement(3, "System.out.println(p);");
    }

    private static void arrays() throws IOException {
        statement(4, "g = new int[3].length;");
        statement(4, "int[] a = h;");
        statement(4, "h = h;");
        statement(4, "this.h = h;");
        statement(4, "g = h == h ? 1 : 0;");
        statement(4, "g = h != null ? 1 : 0;");
        statement(4, "new InductChecker();");
        members(4, "private int n; private final int[] a = new int[n];");
        members(4, "private final int[] a = new int[0];");
        members(4, "private final int[] a = {1, 2};");
        members(4, "private final int[] a = new int[2]; private int[] f() { return a; }");
    }

    private static void constants() throws IOException {
        members(5, "private static int a;");
        members(5, "private static final boolean A = true;");
        members(5, "private static final int[] A = new int[2];");
        members(5, "static { }");
    }

    private static void statements() throws IOException {
        statement(6, "throw new RuntimeException();");
        statement(6, "try { g = p; } finally { g = 1; }");
        statement(6, "synchronized (this) { g = p; }");
        statement(6, "assert p > 0;");
        statement(6, "g = this instanceof InductChecker ? 1 : 0;");
        statement(6, "run(() -> 1);");
        statement(6, "run(this::f);");
        statement(6, "run((Object) this);");
        members(6, "private void f() throws Exception { }");
    }

    private static void divisors() throws IOException {
        statement(7, "g = 1 / p;");
        statement(7, "g = 1 % p;");
        statement(7, "g /= p;");
        statement(7, "g %= 0;");
    }

    private static void loops() throws IOException {
        statement(8, "while (p > 0) { p--; }");
        statement(8, "do { p--; } while (p > 0);");
        statement(8, "for (int i : h) { g = i; }");
        statement(8, "for (;;) { }");
        statement(8, "for (int i = 0; i < p; ) { i++; }");
        statement(8, "for (int i = 0; i < p; i--) { }");
        statement(8, "for (int i = 0; i != p; i++) { }");
        statement(8, "for (int i = 0; g < p; i++) { }");
        statement(8, "for (int i = 0; i < p; i++) { i = 0; }");
        statement(8, "for (int i = 0; i < p; i++) { i -= 1; }");
        statement(8, "for (int i = 0; i < p; i++) { --i; }");
        statement(8, "for (int i = 0; i < p; i++) { p++; }");
        statement(8, "f(p);");
        members(8, "private void a() { b(); } private void b() { c(); } private void c() { a(); }");
        members(8, "private void a() { b(); } private void b() { b(); }");
    }

    private static String chain(int methods) {
        StringBuilder chain = new StringBuilder("private void m1() { }");
        for (int k = 2; k <= methods; k++) {
            chain.append(" private void m" + k + "() { m" + (k - 1) + "(); }");
        }
        return chain.toString();
    }

    private static void calls() throws IOException {
        members(10, "private int a(int b) { return a(a(b)); }");
        members(10, "private int a(int b) { return 1; } private void c() { a(1 + a(2)); }");
        members(10, "private void a(int b, int c, int d, int e, int f, int g, int h, int i) { }");
        members(10, chain(7));
        Due.is("six deep", Language.breaches(inClass(chain(6))).size(), 0);
    }

    private static String fields(int count) {
        StringBuilder fields = new StringBuilder();
        for (int k = 0; k < count; k++) {
            fields.append("private int a" + k + "; ");
        }
        return fields.toString();
    }

    private static String ofLines(int lines) {
        return "private void a() {" + "\n".repeat(lines - 1) + "}";
    }

    private static void sizes() throws IOException {
        members(10, fields(41));
        Due.is("forty fields", Language.breaches(inClass(fields(40))).size(), 0);
        members(10, ofLines(61));
        Due.is("sixty lines", Language.breaches(inClass(ofLines(60))).size(), 0);
    }
}
