import java.io.IOException;
import java.nio.file.Files;
import java.nio.file.Path;
import java.util.List;

/** The class keeps to ../shared/LANGUAGE.md, as far as LanguageRules sees; and small classes that break a rule are found. */
public final class LanguageTest {
    private static int wrong = 0;
    private static int looked = 0;

    public static void main(String[] args) throws IOException {
        for (String broken : LanguageRules.broken(Files.readString(Path.of("src/main/java/RindTalk.java")))) {
            wrong++;
            System.out.println("the class, " + broken);
        }
        holds("int a() { int s = 0; for (int i = 0; i < 3; i++) { s += i / 2; } return s; }");
        holds("private final int[][] a = new int[2][3]; private static final int[] B = {1, 2}; private static final class C { int d; }");
        holds("private int a(int k) { return k > 3 ? 0 : a(k + 1); }");
        files();
        facesAndClasses();
        typesAndTheLibrary();
        statementsAndLoops();
        callsAndWhatIsMade();
        System.out.println("the language: " + looked + " small classes looked at, " + wrong + " faults");
        if (wrong != 0) {
            System.exit(1);
        }
    }

    private static List<String> brokenBy(String members) throws IOException {
        looked++;
        String open = members.replaceAll("^int ", "public int ");
        return LanguageRules.broken("public final class RindTalk {\n" + open + "\n}\n");
    }

    private static void holds(String members) throws IOException {
        for (String broken : brokenBy(members)) {
            wrong++;
            System.out.println(members + " is taken for broken: " + broken);
        }
    }

    private static void breaks(int rule, String members) throws IOException {
        List<String> found = brokenBy(members);
        if (found.isEmpty() || !found.stream().allMatch(f -> f.startsWith("rule " + rule + ":"))) {
            wrong++;
            System.out.println(members + " breaks rule " + rule + ", but is told as " + found);
        }
    }

    private static void files() throws IOException {
        String[] sources = {"import java.util.Random;\npublic final class RindTalk { }\n", "public final class RindTalk { }\nclass Other { }\n",
            "package a;\npublic final class RindTalk { }\n", "public class RindTalk { }\n", "final class RindTalk { }\n"};
        int[] rules = {4, 1, 0, 1, 1};
        for (int n = 0; n < sources.length; n++) {
            looked++;
            String due = "rule " + rules[n] + ":";
            List<String> found = LanguageRules.broken(sources[n]);
            if (found.isEmpty() || !found.stream().allMatch(f -> f.startsWith(due))) {
                wrong++;
                System.out.println(sources[n] + " breaks rule " + rules[n] + ", but is told as " + found);
            }
        }
    }

    private static void facesAndClasses() throws IOException {
        breaks(1, "void a() { }");
        breaks(1, "protected int a = 0;");
        breaks(1, "public static class A { }");
        breaks(2, "private class A { }");
        breaks(2, "int a() { class B { } return 0; }");
        breaks(2, "private interface A { int b(); } private void c() { A a = () -> 0; }");
        breaks(2, "private interface A { int b(); } private static int d() { return 0; } private void c() { A a = RindTalk::d; }");
        breaks(5, "private static int a = 0;");
        breaks(5, "private static final StringBuilder A = new StringBuilder();");
        breaks(5, "static { }");
        StringBuilder fields = new StringBuilder();
        StringBuilder classes = new StringBuilder();
        for (int n = 0; n < 21; n++) {
            fields.append("private int a").append(n).append(";\n");
            classes.append("private static class A").append(n).append(" { }\n");
        }
        breaks(11, fields.toString());
        breaks(11, classes.toString());
        breaks(11, "int a(int b, int c, int d, int e, int f, int g, int h, int i) { return 0; }");
        breaks(11, "int a() {\nint b = 0;\n" + "b++;\n".repeat(60) + "return b;\n}");
    }

    private static void typesAndTheLibrary() throws IOException {
        breaks(3, "private double a = 0;");
        breaks(3, "private final Object a = null;");
        breaks(3, "private final int[][][] a = null;");
        breaks(3, "private final String[][] a = null;");
        breaks(3, "private Thread a() { return null; }");
        breaks(4, "int a() { return Math.addExact(1, 2); }");
        breaks(4, "int a() { return (int) System.nanoTime(); }");
        breaks(4, "int a(String b) { return b.hashCode(); }");
        breaks(4, "private final String a = \"\u00e9\";");
        breaks(6, "public boolean equals(RindTalk other) { return true; }");
    }

    private static void statementsAndLoops() throws IOException {
        breaks(6, "int a(String b, String c) { return b == c ? 1 : 0; }");
        breaks(6, "int a() { throw new IllegalStateException(); }");
        breaks(6, "int a() { try { return 0; } finally { } }");
        breaks(6, "int a() { synchronized (this) { return 0; } }");
        breaks(6, "int a() { assert true; return 0; }");
        breaks(6, "private static class A { } private static class B extends A { } private static B c(A a) { return (B) a; }");
        breaks(7, "int a(int b) { return 1 / b; }");
        breaks(7, "int a(int b) { return 1 % b; }");
        breaks(7, "int a(int b) { int c = 1; c /= b; return c; }");
        breaks(7, "private static int b() { return 0; } private final int[] a = new int[b()];");
        breaks(9, "int a(int b) { while (b > 0) { b--; } return b; }");
        breaks(9, "int a(int b) { do { b--; } while (b > 0); return b; }");
        breaks(9, "int a() { for (;;) { } }");
        breaks(9, "int a(int b) { for (int i = 0; b > 0; i++) { b--; } return b; }");
        breaks(9, "int a() { for (int i = 0; i < 9; i--) { } return 0; }");
        breaks(9, "int a() { for (int i = 0; i < 9; i++) { i--; } return 0; }");
        breaks(9, "int a() { for (int i = 0; i < 9; i++) { i = 0; } return 0; }");
        breaks(9, "int a() { for (int i = 0; i < 9; i++) { i -= 1; } return 0; }");
        breaks(10, "private String a(String b) { return b + 1; }");
        breaks(10, "private String a(String b) { String c = b; c += 1; return c; }");
    }

    private static void callsAndWhatIsMade() throws IOException {
        breaks(8, "int a(int k) { return k > 3 ? 0 : a(k + 1); }");
        breaks(8, "private int a(int k) { return k > 3 ? 0 : b(k + 1); } private int b(int k) { return a(k); }");
        StringBuilder chain = new StringBuilder("public int a0() { return a1(); }\n");
        for (int n = 1; n < 8; n++) {
            chain.append("private int a").append(n).append("() { return a").append(n + 1).append("(); }\n");
        }
        breaks(11, chain + "private int a8() { return 0; }");
        holds(chain.toString().replace("return a8();", "return 0;"));
        breaks(12, "int a() { int[] b = new int[1]; return b[0]; }");
        breaks(12, "int b() { A a = new A(); return 0; } private static class A { }");
        breaks(12, "public RindTalk() { a(); } private void a() { }");
        breaks(12, "private static class A { A(RindTalk x) { } } private final A a; public RindTalk() { a = new A(this); }");
    }
}
