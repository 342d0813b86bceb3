import java.io.IOException;
import java.nio.file.Files;
import java.nio.file.Path;
import java.util.List;

/** The class keeps to LANGUAGE.md, as far as that can be read off its source. */
public final class LanguageTest {
    private static final Path SOURCE = Path.of("src/main/java/LazyPatMatch.java");

    /** Members that break a rule, each after the number of the rule. */
    private static final String[][] BROKEN = {
        {"1", "private interface Other { }"},
        {"1", "private enum Other { }"},
        {"1", "private record Other(int a) { }"},
        {"1", "private final class Other { }"},
        {"1", "} final class Other {"},
        {"2", "private double a;"},
        {"2", "private final float[] a = new float[3];"},
        {"2", "private final int[][] a = new int[3][3];"},
        {"2", "private String a;"},
        {"2", "private Object f() { return this; }"},
        {"2", "private boolean f(Integer a) { return true; }"},
        {"2", "private void f() { var a = 1; }"},
        {"2", "private int f() { return (int) 1.5; }"},
        {"3", "private int f(int a) { return Math.abs(a); }"},
        {"3", "private int f() { return Integer.MAX_VALUE; }"},
        {"3", "private int f() { return hashCode(); }"},
        {"4", "private int[] a = new int[3];"},
        {"4", "private final int[] a = new int[0];"},
        {"4", "private final int[] a = new int[3 + 1];"},
        {"4", "private final int[] a = {1, 2};"},
        {"4", "private final int[] a; LazyPatMatch(int n) { a = new int[n]; }"},
        {"4", "private void f() { int[] a = new int[3]; }"},
        {"4", "private final int[] a = new int[3]; private int[] f() { return a; }"},
        {"4", "private final int[] a = new int[3]; private boolean f() { return a == null; }"},
        {"4", "private boolean f() { return new LazyPatMatch() == this; }"},
        {"5", "private static int a = 1;"},
        {"5", "private static final int A = f(); private static int f() { return 1; }"},
        {"5", "private static final boolean A = true;"},
        {"5", "private static final int[] A = new int[3];"},
        {"5", "static { }"},
        {"6", "private void f() { throw null; }"},
        {"6", "private void f() { try { f(); } finally { } }"},
        {"6", "private void f() { synchronized (this) { } }"},
        {"6", "private void f() { assert true; }"},
        {"6", "private boolean f() { return this instanceof LazyPatMatch; }"},
        {"6", "private int f() { return g(a -> a); }"},
        {"6", "private int f() { return g(this::f); }"},
        {"6", "private LazyPatMatch f() { return (LazyPatMatch) this; }"},
        {"8", "private void f() { f(); }"},
        {"8", "private void f() { g(); } private void g() { f(); }"},
        {"8", "private void f(boolean a) { while (a) { } }"},
        {"8", "private void f(boolean a) { do { } while (a); }"},
        {"8", "private void f() { for (;;) { } }"},
        {"8", "private void f(int n) { for (int i = 0; i != n; i++) { } }"},
        {"8", "private void f(int n) { for (int i = 0; i < n; i--) { } }"},
        {"8", "private void f(int n) { for (int i = 0; n < i; i++) { } }"},
        {"8", "private void f(int n) { for (int i = 0; i < n || n > 3; i++) { } }"},
        {"8", "private void f(int n) { for (int i = 0; i < n; i++) { i = 0; } }"},
        {"8", "private void f(int n) { for (int i = 0; i < n; i++) { i -= 1; } }"},
        {"8", "private void f(int n) { for (int i = 0; i < n; i++) { i--; } }"},
        {"10", "private void f(int a, int b, int c, int d, int e, int g, int h, int i) { }"},
        {"10", "private int f(int a) { return a; } private int g(int a) { return f(f(a)); }"},
        {"10", "private int f(int a) { return a; } private int g(int a) { return f(1 + f(a)); }"},
        {"10", "private void f() { " + "\n".repeat(60) + "}"},
        {"10", "private int a" + ", a".repeat(40) + ";"},
        {"10", "void a() { b(); } void b() { c(); } void c() { d(); } void d() { e(); } void e() { f(); }"
                + " void f() { g(); } void g() { }"},
    };

    /** Members at the edge of a rule, which break none. */
    private static final String[] SOUND = {
        "private static final int A = -1; private final int[] a = new int[A_LENGTH]; private long b;",
        "private final int c; LazyPatMatch(int c) { this.c = c; }",
        "private int f(short a, byte b, char c, boolean d, long e, int[] g, int h) { return (int) e; }",
        "private void f(int n) { for (int i = 0; i < n && n > 3; i++) { n = i; } }",
        "private void f(int n) { for (int i = n - 1; i >= 0; i--) { int a = i; } }",
        "private int f(int[] a) { return a.length; }",
        "private int f(int a) { return a; } private int g(int a) { return f(a) + f(2 * a); }",
        "private void f() { " + "\n".repeat(59) + "}",
        "private int a" + ", a".repeat(39) + ";",
        "void a() { b(); } void b() { c(); } void c() { d(); } void d() { e(); } void e() { f(); } void f() { }",
    };

    public static void main(String[] args) throws IOException {
        List<String> faults = LanguageRules.faultsOf(Files.readString(SOURCE));
        Checks.due(SOURCE + " breaks LANGUAGE.md: " + faults, faults.size(), 0);
        // Guards the test itself: rules that let everything pass would show nothing.
        for (String[] broken : BROKEN) {
            faults = LanguageRules.faultsOf(around(broken[1]));
            Checks.due(broken[1] + " breaks rule " + broken[0] + ": " + faults,
                    names(faults, broken[0]) ? 1 : 0, 1);
        }
        Checks.due("a package line breaks rule 1",
                names(LanguageRules.faultsOf("package a; " + around("")), "1") ? 1 : 0, 1);
        Checks.due("an import breaks rule 3",
                names(LanguageRules.faultsOf("import java.util.List; " + around("")), "3") ? 1 : 0, 1);
        for (String sound : SOUND) {
            faults = LanguageRules.faultsOf(around(sound));
            Checks.due(sound + " breaks no rule: " + faults, faults.size(), 0);
        }
        Checks.end();
    }

    private static String around(String members) {
        return "public final class LazyPatMatch { " + members + " }";
    }

    private static boolean names(List<String> faults, String rule) {
        return faults.stream().anyMatch(fault -> fault.startsWith(rule + ": "));
    }
}
