import java.io.IOException;
import java.nio.file.Files;
import java.nio.file.Path;
import java.util.Set;

/** The class keeps the rules of LANGUAGE.md, as far as its source shows it; and samples show that the look is sharp. */
public final class LanguageTest {
  private static final String GOOD = "private int f = 0; private final int[] a = new int[3];"
      + "public int m(int x) { int y = (int) 3L; for (int i = 0; i < 3; i++) { y += a[i]; } return y > x ? n(y) : x; }"
      + "private int n(int x) { return x / 2; }";

  public static void main(String[] args) throws IOException {
    for (String breach : Language.breaches(Files.readString(Path.of("src/main/java/TrimChecker.java")))) {
      Run.tellWrong("rule " + breach);
    }
    keeps("public final class X { " + GOOD + " }");
    checkRules1To3();
    checkRules4And5();
    checkRules6And7();
    checkRule8();
    checkRule10();
    Run.end();
  }

  private static void checkRules1To3() throws IOException {
    breaks(1, "package p; public final class X { }");
    breaks(1, "final class X { }");
    breaks(1, "public class X { }");
    breaks(1, "public final class X { } final class Y { }");
    breaks(1, "public enum X { A }");
    breaksInside(1, "private static final class Y { }");
    breaksInside(1, "int g;");
    breaksInside(1, "public int g;");
    breaksInside(1, "int o() { return 1; }");
    breaksInside(1, "private int m() { return 1; }");
    breaksInside(2, "private float g;");
    breaksInside(2, "private double[] g = new double[2];");
    breaksInside(2, "private int o() { return (int) 1.5; }");
    breaksInside(2, "private String g;");
    breaksInside(2, "private void o() { var g = 1; }");
    breaksInside(2, "private int[][] g = new int[2][2];");
    breaks(3, "import java.util.List; public final class X { }");
    breaksInside(3, "private int o() { return Math.abs(f); }");
    breaksInside(3, "private int o() { return hashCode(); }");
  }

  private static void checkRules4And5() throws IOException {
    breaksInside(4, "private void o() { int[] b = new int[2]; }");
    breaksInside(4, "private final int[] b = new int[0];");
    breaksInside(4, "private final int[] b = {1, 2};");
    breaksInside(4, "private final int[] b;");
    breaksInside(4, "private int[] o() { return a; }");
    breaksInside(4, "private boolean o() { return a == null; }");
    breaksInside(4, "private final int[] b = new int[3]; private void o() { b = a; }");
    breaksInside(4, "private void o() { new Object(); }");
    breaksInside(5, "private static int g = 1;");
    breaksInside(5, "private static final boolean G = true;");
    breaksInside(5, "private static final int[] G = new int[3];");
    breaksInside(5, "private static final int G; static { G = 1; }");
  }

  private static void checkRules6And7() throws IOException {
    breaksInside(6, "private void o() { throw new RuntimeException(); }");
    breaksInside(6, "private void o() { try { f = 1; } finally { f = 2; } }");
    breaksInside(6, "private void o() { synchronized (this) { f = 1; } }");
    breaksInside(6, "private void o() { assert f == 1; }");
    breaksInside(6, "private boolean o() { return this instanceof Object; }");
    breaksInside(6, "private void o() { Runnable r = () -> { }; }");
    breaksInside(6, "private void o() { Runnable r = this::hashCode; }");
    breaksInside(6, "private Object o() { return (Object) this; }");
    breaksInside(7, "private int o(int x) { return 7 / x; }");
    breaksInside(7, "private int o(int x) { return 7 % x; }");
    breaksInside(7, "private void o(int x) { f /= x; }");
    breaksInside(7, "private void o(int x) { f %= 0; }");
  }

  private static void checkRule8() throws IOException {
    breaksInside(8, "private void o() { o(); }");
    breaksInside(8, "private void o() { p(); } private void p() { q(); } private void q() { o(); }");
    breaksInside(8, "private void o() { while (f > 0) { f--; } }");
    breaksInside(8, "private void o() { do { f--; } while (f > 0); }");
    breaksInside(8, "private void o() { for (;;) { } }");
    breaksInside(8, "private void o() { for (int i = 0; i < 3; ) { } }");
    breaksInside(8, "private void o() { for (int i = 0; i < 3; i--) { } }");
    breaksInside(8, "private void o() { for (int i = 3; i > 0; i++) { } }");
    breaksInside(8, "private void o() { for (int i = 3; i != 0; i--) { } }");
    breaksInside(8, "private void o() { for (int i = 0; f < 3; i++) { } }");
    breaksInside(8, "private void o() { for (int i = 0; i < 3; f++) { } }");
    breaksInside(8, "private void o() { for (int i = 0; i < 3; i++) { i = 0; } }");
    breaksInside(8, "private void o() { for (int i = 0; i < f; i++) { f += 1; } }");
    breaksInside(8, "private void o() { for (int i = 0; i < 3; i++) { i--; } }");
  }

  private static void checkRule10() throws IOException {
    breaksInside(10, "private void o(int a, int b, int c, int d, int e, int f, int g, int h) { }");
    breaksInside(10, "private int o(int x) { return n(n(x)); }");
    breaksInside(10, "private int o(int x) { return n(1 + n(x)); }");
    breaksInside(10, "private void o() {" + "\n".repeat(60) + "}");
    breaksInside(10, "private int o() { return p(); } private int p() { return q(); } private int q() { return r(); }"
        + "private int r() { return s(); } private int s() { return m(1); }");
    StringBuilder fields = new StringBuilder();
    for (int i = 0; i < 39; i++) {
      fields.append("private int g").append(i).append(";");
    }
    breaksInside(10, fields.toString());
  }

  private static void keeps(String source) throws IOException {
    Set<String> breaches = Language.breaches(source);
    if (!breaches.isEmpty()) {
      Run.tellWrong("found " + breaches + " in " + source);
    }
  }

  private static void breaksInside(int rule, String member) throws IOException {
    breaks(rule, "public final class X { " + GOOD + member + " }");
  }

  private static void breaks(int rule, String source) throws IOException {
    Set<String> breaches = Language.breaches(source);
    if (breaches.stream().noneMatch(breach -> breach.startsWith(rule + " "))) {
      Run.tellWrong("rule " + rule + " is broken, but found was " + breaches + ": " + source);
    }
  }
}
