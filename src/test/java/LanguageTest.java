import java.io.IOException;
import java.util.List;

/** The rules of LANGUAGE.md that can be seen in the text of the class; and, by classes that break them, that they are looked at. */
public final class LanguageTest {
    private static Check check;

    public static void main(String[] args) throws IOException {
        check = new Check("LanguageTest");
        List<String> broken = Rules.brokenBy(Texts.ofClass());
        check.holds("the class keeps to the rules: " + broken, broken.isEmpty());
        check.holds("it is one file", Texts.CLASS.toFile().isFile() && Texts.CLASS.getParent().toFile().list().length == 1);
        nothingIsTold("private int f(int n) { return n > 0 ? 12 / n : 0; }");
        nothingIsTold("private int f(int n) { int i = 0; while (n > 3 && i < 9) { i++; } return i; }");
        nothingIsTold("private static final int[] ROW = {1, 2}; private final int[][] two = new int[3][4];");
        rulesOfTheClass();
        rulesOfWhatIsDone();
        rulesOfSize();
        check.end();
    }

    private static void rulesOfTheClass() throws IOException {
        tells(1, "int seen;");
        tells(1, "protected int seen() { return 0; }");
        tells(1, "public static final class Seen { }");
        tells(2, "private final class Inner { }");
        tells(2, "private int f() { class Local { } return 0; }");
        tells(2, "private final Object one = new Object() { };");
        tells(2, "private final Runnable one = () -> { };");
        tells(2, "private final Runnable one = System::gc;");
        tells(3, "private final double d = 0;");
        tells(3, "private final int[][][] rows = null;");
        tells(3, "private final FixedFacts[][] rows = null;");
        tells(3, "private Object f() { return null; }");
        tells(3, "private int f(Integer number) { return 0; }");
        tells(4, "private final int made = new java.util.ArrayList<Integer>().size();");
        tells(4, "private int f() { return Math.addExact(1, 2); }");
        tells(4, "private long f() { return System.nanoTime(); }");
        tells(4, "private boolean f(FixedFacts other) { return equals(other); }");
        tells(4, "private int f() { return hashCode(); }");
        tells(4, "private final String text = \"" + (char) 233 + "\";");
        tells(4, "private final int most = Integer.MAX_VALUE;");
        tells(5, "private static int state;");
        tells(5, "private static final FixedFacts ONE = null;");
        tells(5, "private static final int[] ROW = new int[3];");
        tells(5, "static { }");
    }

    private static void rulesOfWhatIsDone() throws IOException {
        tells(6, "private int f() { throw new IllegalStateException(); }");
        tells(6, "private int f() { try { return 1; } finally { } }");
        tells(6, "private int f() { synchronized (this) { return 1; } }");
        tells(6, "private synchronized int f() { return 1; }");
        tells(6, "private int f() throws Exception { return 1; }");
        tells(6, "private int f(int n) { assert n > 0; return 1; }");
        tells(6, "private boolean f(String a, String b) { return a == b; }");
        tells(6, "private FixedFacts f(Object one) { return (FixedFacts) one; }");
        tells(7, "private int f(int n) { return 12 / n; }");
        tells(7, "private int f(int n) { return n > 0 ? 0 : 12 % n; }");
        tells(7, "private int f(int n) { n %= n; return n; }");
        tells(7, "private int f(int n) { return n / 0; }");
        tells(8, "private int f(int n) { return f(n - 1); }");
        tells(8, "private int f(int n) { return g(n); } private int g(int n) { return f(n); }");
        tells(9, "private int f() { for (;;) { } }");
        tells(9, "private int f(int n) { for (int i = 0; i < n; i++) { i--; } return 0; }");
        tells(9, "private int f(int n) { for (int i = 0; n > 0 || i < 3; i++) { } return 0; }");
        tells(9, "private int f(int n) { while (n > 0) { if (n > 1) { n--; } } return 0; }");
        tells(9, "private int f(int n) { do { n += 2; n--; } while (n > 0); return 0; }");
        tells(10, "private String f(int n) { return \"n\" + n; }");
        tells(12, "private int f() { return new int[3].length; }");
        tells(12, "private FixedFacts f() { return new FixedFacts(); }");
    }

    private static void rulesOfSize() throws IOException {
        tells(11, "private int f(int a, int b, int c, int d, int e, int f, int g, int h) { return 0; }");
        tells(11, "private int f() {" + "\n".repeat(60) + "return 0; }");
        nothingIsTold("private int f() {" + "\n".repeat(59) + "return 0; }");
        StringBuilder classes = new StringBuilder(), fields = new StringBuilder();
        for (int i = 0; i < 12; i++) {
            classes.append("private static final class C").append(i).append(" { } ");
        }
        for (int i = 0; i < 21; i++) {
            fields.append("private int f").append(i).append("; ");
        }
        tells(11, classes.toString());
        tells(11, fields.toString());
        tells(11, "public int f0() { return f1(); } " + chainOf(9));
        nothingIsTold("public int f0() { return f1(); } " + chainOf(8));
    }

    private static String chainOf(int calls) {
        StringBuilder chain = new StringBuilder();
        for (int i = 1; i < calls; i++) {
            String rest = i == calls - 1 ? "0" : "f" + (i + 1) + "()";
            chain.append("private int f").append(i).append("() { return ").append(rest).append("; } ");
        }
        return chain.toString();
    }

    private static String classOf(String members) {
        return "public final class FixedFacts { " + members + " }";
    }

    private static void tells(int rule, String members) throws IOException {
        List<String> broken = Rules.brokenBy(classOf(members));
        check.holds("rule " + rule + " is broken by " + members + ", told is " + broken,
                broken.stream().anyMatch(one -> one.startsWith("rule " + rule + ":")));
    }

    private static void nothingIsTold(String members) throws IOException {
        List<String> broken = Rules.brokenBy(classOf(members));
        check.holds("no rule is broken by " + members + ", told is " + broken, broken.isEmpty());
    }
}
