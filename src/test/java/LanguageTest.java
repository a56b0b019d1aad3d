import java.io.IOException;
import java.net.URI;
import java.nio.charset.StandardCharsets;
import java.nio.file.Files;
import java.nio.file.Path;
import java.util.List;
import javax.tools.JavaFileObject;
import javax.tools.SimpleJavaFileObject;

/**
 * The source is held against LANGUAGE.md, rule by rule. That the Rules see what they are there for is shown by small
 * sources, each of which breaks one rule.
 */
public final class LanguageTest {
    private final Kit kit = new Kit("LanguageTest");

    public static void main(String[] args) throws IOException {
        LanguageTest test = new LanguageTest();
        Path file = Path.of("src/main/java/SuiteBench.java");
        List<String> found = test.complaints(Files.readString(file, StandardCharsets.ISO_8859_1));
        for (String complaint : found) {
            System.out.println("LanguageTest: " + complaint);
        }
        test.kit.is("complaints about SuiteBench.java", found.size(), 0);
        test.face();
        test.types();
        test.library();
        test.statics();
        test.exceptions();
        test.ends();
        test.sizes();
        test.kit.end();
    }

    private List<String> complaints(String source) throws IOException {
        JavaFileObject unit = new SimpleJavaFileObject(URI.create("string:///SuiteBench.java"), JavaFileObject.Kind.SOURCE) {
            @Override
            public CharSequence getCharContent(boolean ignoreEncodingErrors) {
                return source;
            }
        };
        return Rules.complaints(unit, source);
    }

    /** A class with these members has this rule's complaint; rule 0: none. */
    private void in(int rule, String members) throws IOException {
        whole(rule, "public final class SuiteBench {\n" + members + "\n}\n");
    }

    /** A method with this body. */
    private void body(int rule, String body) throws IOException {
        in(rule, "public int told(int n, int[] row) {\n" + body + "\n}");
    }

    private void whole(int rule, String source) throws IOException {
        List<String> found = complaints(source);
        boolean seen = false;
        for (String complaint : found) {
            seen |= complaint.startsWith("rule " + rule + ":");
        }
        kit.is("rule " + rule + " of " + source + " has " + found, rule == 0 ? found.isEmpty() : seen, true);
    }

    // Rules 1, 2
    private void face() throws IOException {
        in(0, "public int told() { return 1; } private int hidden() { return 2; }");
        in(1, "int open() { return 1; }");
        in(1, "protected int open() { return 1; }");
        in(1, "int open;");
        in(1, "public int open;");
        in(0, "public static final int OPEN = 1;");
        in(1, "public int told(int n) { return 1; } private int told() { return 2; }");
        in(1, "public int told(int n) { return 1; } static final class In { int told() { return 2; } }");
        in(0, "private static final class In { }");
        in(0, "static final class In { }");
        in(1, "public static final class In { }");
        in(1, "private final class In { }");
        whole(1, "package p; public final class SuiteBench { }");
        whole(1, "final class SuiteBench { }");
        whole(1, "public class SuiteBench { }");
        whole(1, "public final class SuiteBench { } class Beside { }");
        body(2, "Runnable r = () -> { }; return 1;");
        body(2, "java.util.function.IntUnaryOperator r = Math::abs; return 1;");
        body(2, "class Local { } return 1;");
    }

    // Rules 3, 10
    private void types() throws IOException {
        body(0, "long a = 1; boolean b = n > 1; byte c = (byte) n; int[] d = row; return b ? (int) a : c + d.length;");
        body(3, "Object o = null; return 1;");
        body(3, "double d = 1.0; return 1;");
        body(3, "int[][][] d = null; return 1;");
        body(0, "int[][] d = null; return 1;");
        in(3, "private static final class In { } private final In[][] all = null;");
        in(0, "private static final class In { } private final In[] all = null;");
        in(3, "private Integer told() { return null; }");
        in(3, "private java.util.Map<String, String> map;");
        body(10, "String s = \"a\" + n; return 1;");
        body(10, "String s = \"a\"; s += n; return 1;");
        in(3, "// a sign beyond 127: \u00e4\n");
    }

    // Rules 4, 13
    private void library() throws IOException {
        String[] allowed = {"java.util.Arrays.fill(row, 1);", "java.util.Arrays.fill(row, 0, 1, 1);", "Math.max(n, 1);",
            "Math.min(n, 1);", "Integer.bitCount(n);", "System.arraycopy(row, 0, row, 0, 1);"};
        for (String call : allowed) {
            body(0, call + " return 1;");
        }
        String[] ruledOut = {"java.util.Arrays.sort(row);", "Math.addExact(n, 1);", "System.nanoTime();",
            "System.exit(1);", "new java.util.Random();", "Thread.yield();", "System.out.println(n);",
            "java.util.Arrays.fill(new boolean[1], true);", "Math.random();", "row.equals(row);", "row.hashCode();",
            "new java.util.ArrayList<int[]>();"};
        for (String call : ruledOut) {
            body(4, call + " return 1;");
        }
    }

    // Rule 5
    private void statics() throws IOException {
        in(0, "private static final int ONE = 1; private static final int[] ROW = {1, 2, 1 << 3}; "
            + "public int told() { return ROW[0]; }");
        in(5, "private static int one = 1;");
        in(5, "private static final int[] ROW = new int[3];");
        in(5, "private static final int[] ROW = {1, Math.max(1, 2)};");
        in(5, "private static final boolean[] ROW = {true};");
        in(5, "private static final int[] ROW = {1}; public int told() { ROW[0] = 2; return 1; }");
        in(5, "private static final int[] ROW = {1}; public int told() { ROW[0]++; return 1; }");
        in(5, "private static final int[] ROW = {1}; public int told() { ROW[0] += 3; return 1; }");
        in(5, "private static final int ONE; static { ONE = 1; }");
    }

    // Rule 6
    private void exceptions() throws IOException {
        body(0, "throw new IndexOutOfBoundsException(\"none\");");
        body(0, "throw new java.util.NoSuchElementException();");
        body(6, "throw new Error();");
        body(6, "RuntimeException e = new RuntimeException(); throw e;");
        body(6, "throw new IllegalStateException(\"none\", null);");
        body(6, "throw new IllegalStateException(Integer.toString(n));");
        in(6, "public SuiteBench() { throw new IllegalStateException(\"none\"); }");
        body(6, "try { n++; } catch (RuntimeException e) { n--; } return n;");
        body(6, "try { n++; } finally { n--; } return n;");
        body(6, "synchronized (row) { n++; } return n;");
        body(6, "assert n > 0; return n;");
        in(6, "public String toString() { return \"\"; }");
        in(6, "private static final class Odd extends RuntimeException { }");
        body(6, "long[] l = (long[]) (Object) row; return n;");
        body(6, "return row instanceof Object ? 1 : 0;");
    }

    // Rules 8, 9
    private void ends() throws IOException {
        in(8, "public int told(int n) { return told(n - 1); }");
        in(8, "public int told(int n) { return more(n); } private int more(int n) { return told(n); }");
        body(0, "for (int k = 0; k < n; k++) { n--; } return 1;");
        body(0, "int k = 0; while (k < n && row[k] > 0) { k++; } return 1;");
        body(0, "int k = 5; while (k > 0) { k--; } return 1;");
        body(9, "for (;;) { n++; }");
        body(9, "for (int k = 0; ; k++) { n++; }");
        body(9, "for (int k = 0; k < n; ) { n = 5; } return 1;");
        body(9, "while (true) { n++; }");
        body(9, "while (n != 3) { n++; } return 1;");
        body(9, "int k = 0; while (n < 3) { k++; } return 1;");
        body(9, "do { n += 0; } while (row[0] != 3); return 1;");
    }

    // Rules 11, 12
    private void sizes() throws IOException {
        in(0, "public int told(int a, int b, int c, int d, int e, int f, int g) { return 1; }");
        in(11, "public int told(int a, int b, int c, int d, int e, int f, int g, int h) { return 1; }");
        body(0, "\n".repeat(56) + "return 1;");
        body(11, "\n".repeat(60) + "return 1;");
        StringBuilder fields = new StringBuilder("private static final int ONE = 1;");
        StringBuilder classes = new StringBuilder();
        StringBuilder calls = new StringBuilder("public int told() { return a(); }");
        for (int k = 0; k < 21; k++) {
            in(k > 20 ? 11 : 0, fields.toString());
            fields.append("private int f").append(k).append(';');
        }
        in(11, fields.toString());
        for (int k = 0; k < 11; k++) {
            classes.append("private static final class In").append(k).append(" { }");
        }
        in(0, classes.toString());
        in(11, classes + "private static final class More { }");
        for (char c = 'a'; c < 'g'; c++) {
            calls.append("private int ").append(c).append("() { return ").append((char) (c + 1)).append("(); }");
        }
        in(0, calls + "private int g() { return 1; }");
        in(11, calls + "private int g() { return h(); } private int h() { return 1; }");
        in(0, "private final int[] row; public SuiteBench() { row = new int[5]; }");
        body(12, "int[] more = new int[n]; return 1;");
        in(12, "private static final class In { } public int told() { In in = new In(); return 1; }");
        in(12, "private static final class In { In(SuiteBench b) { } } private final In in; "
            + "public SuiteBench() { in = new In(this); }");
        in(12, "private static class In { In() { go(); } void go() { } }");
        in(0, "private static final class In { In() { go(); } void go() { } }");
    }
}
