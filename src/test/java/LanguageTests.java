import java.io.IOException;
import java.io.UncheckedIOException;
import java.nio.charset.StandardCharsets;
import java.util.List;
import java.util.Set;

/**
 * The class keeps to the rules of LANGUAGE.md, as far as a program can see it; and copies of it
 * that break a rule are found out, so that this test can't pass by looking at nothing. .ci/run
 * hands it the text of the class.
 */
public final class LanguageTests {
    /** What breaks a rule when it stands in the class. */
    private record Breach(int rule, String words) {
    }

    private static final List<Breach> BREACHES = List.of(
        new Breach(1, "private static final class Inner { }"),
        new Breach(1, "private enum Inner { ONE }"),
        new Breach(1, "private interface Inner { }"),
        new Breach(1, "private record Inner() { }"),
        new Breach(1, "int open;"),
        new Breach(1, "protected int open() { return 1; }"),
        new Breach(1, "private int size(int a, int b) { return a; }"),
        new Breach(2, "private double bad;"),
        new Breach(2, "private String bad;"),
        new Breach(2, "private int[][] bad;"),
        new Breach(2, "private SimilarityJoin bad;"),
        new Breach(2, "private int bad() { return (int) 1.5; }"),
        new Breach(2, "private int bad(int a) { return (int) (float) a; }"),
        new Breach(2, "private void bad() { var a = 1; }"),
        new Breach(2, "private Object bad() { return this; }"),
        new Breach(3, "private int bad(int a) { return Math.abs(a); }"),
        new Breach(3, "private int bad() { return Integer.MAX_VALUE; }"),
        new Breach(3, "private int bad() { return hashCode(); }"),
        new Breach(3, "private int bad() { return this.hashCode(); }"),
        new Breach(3, "private int bad() { return stored.hashCode(); }"),
        new Breach(3, "private int bad() { return new SimilarityJoin().draft; }"),
        new Breach(3, "@Deprecated private int bad() { return 1; }"),
        new Breach(4, "private int[] bad() { return stored; }"),
        new Breach(4, "private int bad() { return new int[3][0]; }"),
        new Breach(4, "private int[] bad = new int[0];"),
        new Breach(4, "private int[] bad = {1, 2};"),
        new Breach(4, "private int[] bad = new int[] {1, 2};"),
        new Breach(4, "private int[] bad = new int[recordCount];"),
        new Breach(4, "private int[] bad = true ? new int[2] : new int[3];"),
        new Breach(4, "private int[] bad; public SimilarityJoin(int a) { if (a > 0) { bad = new int[3]; } }"),
        new Breach(4, "private int[] bad; private void worse() { bad = stored; }"),
        new Breach(4, "private boolean bad(int[] a) { return a == stored; }"),
        new Breach(4, "private boolean bad() { return stored != null; }"),
        new Breach(4, "private int bad() { int[] a = stored; return a[0]; }"),
        new Breach(5, "private static int bad = 0;"),
        new Breach(5, "private static final int[] BAD = new int[3];"),
        new Breach(5, "private static final boolean BAD = true;"),
        new Breach(5, "static { }"),
        new Breach(6, "private void bad() { throw null; }"),
        new Breach(6, "private void bad() { try { draft = 1; } finally { draft = 2; } }"),
        new Breach(6, "private void bad() { synchronized (this) { draft = 1; } }"),
        new Breach(6, "private synchronized void bad() { draft = 1; }"),
        new Breach(6, "private void bad() throws Exception { draft = 1; }"),
        new Breach(6, "private void bad() { assert draft == 1; }"),
        new Breach(6, "private boolean bad() { return this instanceof Object; }"),
        new Breach(6, "private void bad() { Runnable a = () -> { }; }"),
        new Breach(6, "private void bad() { Runnable a = this::clear; }"),
        new Breach(6, "private int bad() { return ((SimilarityJoin) this).draft; }"),
        new Breach(7, "private int bad(int a) { return 6 / a; }"),
        new Breach(7, "private int bad(int a) { return 6 % a; }"),
        new Breach(7, "private int bad(int a) { a /= 0; return a; }"),
        new Breach(8, "private int bad(int a) { return a > 0 ? bad(a - 1) : 0; }"),
        new Breach(8, "private int bad(int a) { return a > 0 ? worse(a - 1) : 0; } private int worse(int a) { return bad(a); }"),
        new Breach(8, "private void bad() { while (draft > 0) { draft = 1; } }"),
        new Breach(8, "private void bad() { do { draft = 1; } while (draft > 0); }"),
        new Breach(8, "private void bad() { for (;;) { draft = 1; } }"),
        new Breach(8, "private void bad() { for (int i = 0; i < 3; i--) { draft = 1; } }"),
        new Breach(8, "private void bad() { for (int i = 0; i < 3; i++) { i = 1; } }"),
        new Breach(8, "private void bad() { for (int i = 0; i < draft; i++) { draft++; } }"),
        new Breach(8, "private void bad() { for (int i = 0; draft < 3; i++) { recordCount = 1; } }"),
        new Breach(10, "private int bad(int a, int b, int c, int d, int e, int f, int g, int h) { return a; }"),
        new Breach(10, "private int bad() { return leastOf(countOf(draft)); }"),
        new Breach(10, "private int bad() { return leastOf(1 + countOf(draft)); }"),
        new Breach(10, "private int bad() { return 1;" + "\n".repeat(60) + "}"),
        new Breach(10, "private int bad() { return worse(); } private int worse() { return worst(); } private int worst() { return groups(); }"),
        new Breach(10, "private int a;".repeat(50)));

    private static Set<String> brokenIn(String text) {
        try {
            return Rules.brokenIn(text);
        } catch (IOException thrown) {
            throw new UncheckedIOException(thrown);
        }
    }

    private static void dueFound(int rule, String how, String text) {
        Set<String> broken = brokenIn(text);
        Due.same("rule " + rule + " seen as broken by " + how,
            broken.stream().anyMatch(words -> words.matches("rule " + rule + "\\b.*")), true);
        Due.same("can be read with " + how, broken.stream().anyMatch(words -> words.startsWith("it can't be read")), false);
    }

    private static void breachesAreFound(String text) {
        String open = text.substring(0, text.lastIndexOf('}'));
        for (Breach breach : BREACHES) {
            dueFound(breach.rule, breach.words, open + breach.words + "\n}\n");
        }
        dueFound(1, "a package line", "package some;\n" + text);
        dueFound(1, "a second class", text + "class Second { }\n");
        dueFound(1, "a class that is not final", text.replace("public final class", "public class"));
        dueFound(2, "another class above it", text.replace("class SimilarityJoin", "class SimilarityJoin extends Thread"));
        dueFound(3, "an import", "import java.util.List;\n" + text);
    }

    private static final String[] METHODS = {
        "token", "drop", "clear", "recall", "store", "remove", "threshold", "records", "size", "has", "frequency", "common",
        "similar", "pairs", "degree", "partner", "nearest", "matches", "match", "containing", "groups", "groupOf", "groupSize"};
    private static final Set<String> OF_NOTHING = Set.of("clear", "store", "records", "pairs", "matches", "containing", "groups");
    private static final Set<String> OF_TWO = Set.of("threshold", "has", "common", "similar", "partner");

    private static long drawn = 20261116L;

    private static int draw(int below) {
        drawn = drawn * 6364136223846793005L + 1442695040888963407L;
        return (int) ((drawn >>> 33) % below);
    }

    /** Small numbers mostly, and numbers of any size. */
    private static int anyNumber() {
        int[] edges = {Numbers.LOW, Numbers.LOW + 1, -1, 0, 12, 13, 19, 20, 29, 30, 31, 32, 33, 64, Numbers.HIGH - 1, Numbers.HIGH};
        return switch (draw(8)) {
            case 0 -> edges[draw(edges.length)];
            case 1 -> draw(Numbers.HIGH) * (draw(2) == 0 ? 1 : -1);
            default -> draw(30);
        };
    }

    private static Call anyCall() {
        String method = draw(3) > 0 ? METHODS[draw(METHODS.length)] : draw(3) > 0 ? "token" : "store";
        if (OF_NOTHING.contains(method)) {
            return new Call(method);
        }
        return OF_TWO.contains(method) ? new Call(method, anyNumber(), anyNumber()) : new Call(method, anyNumber());
    }

    /** Past the 512th call too: answers are free there, yet "no call may ever throw". A call that throws breaks the test. */
    private static void noCallThrows() {
        for (int run = 0; run < 20; run++) {
            SimilarityJoin x = new SimilarityJoin();
            for (int at = 0; at < 5000; at++) {
                anyCall().on(x);
            }
        }
    }

    private static void sameCallsSameAnswers() {
        for (int run = 0; run < 20; run++) {
            SimilarityJoin x = new SimilarityJoin();
            SimilarityJoin same = new SimilarityJoin();
            for (int at = 0; at < Run.MOST_CALLS; at++) {
                Call call = anyCall();
                Due.same(call + " on a second object", call.on(same), call.on(x));
            }
        }
    }

    public static void main(String[] args) throws IOException {
        String text = new String(System.in.readAllBytes(), StandardCharsets.UTF_8);
        Due.sentence("LANGUAGE.md: the class keeps to the rules", () -> Due.same("what breaks a rule", brokenIn(text), Set.of()));
        Due.sentence("LANGUAGE.md: a class that does not is found out", () -> breachesAreFound(text));
        Due.sentence("LANGUAGE.md, rule 7: no call may ever throw, for any arguments in any state", LanguageTests::noCallThrows);
        Due.sentence("LANGUAGE.md, rule 11: the same calls always give the same answers", LanguageTests::sameCallsSameAnswers);
        Due.end();
    }
}
