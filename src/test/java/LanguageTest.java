import com.sun.source.tree.CompilationUnitTree;
import com.sun.source.util.JavacTask;
import com.sun.source.util.Trees;
import java.io.IOException;
import java.net.URI;
import java.nio.file.Files;
import java.nio.file.Path;
import java.util.List;
import java.util.Set;
import javax.tools.JavaCompiler;
import javax.tools.JavaFileObject;
import javax.tools.SimpleJavaFileObject;
import javax.tools.ToolProvider;

/** The class keeps to the rules of LANGUAGE.md that a program can look for; FaceTest has rule 1. */
public final class LanguageTest {
    public static void main(String[] args) throws IOException {
        String source = Files.readString(Path.of("src/main/java/TilePyramid.java"));
        for (String fault : faultsOf(source)) {
            Check.fault(fault);
        }
        theRulesAreLookedFor();
        Check.end("LanguageTest");
    }

    /** A small class that breaks a rule is found out: else the test above would say nothing. */
    private static void theRulesAreLookedFor() throws IOException {
        Check.same("a class that breaks none", faultsOf(withMember(
                "private final int[] row = new int[4]; int at(int k) { if (k < 0) { throw new"
                + " IllegalArgumentException(\"k\"); } return Math.max(k, row.length); }")).toString(), "[]");
        breaks(1, "package there; public final class TilePyramid { }");
        breaks(1, "public final class TilePyramid { } final class Other { }");
        breaks(2, withMember("void f() { Runnable r = () -> { }; }"));
        breaks(2, withMember("void f() { Runnable r = this::f; }"));
        breaks(2, withMember("void f() { class Local { } }"));
        breaks(2, withMember("void f() { Object o = new Object() { }; }"));
        breaks(3, withMember("int[][][] cube;"));
        breaks(3, withMember("String[][] texts;"));
        breaks(3, withMember("String text = \"\u20ac\";"));
        breaks(4, withMember("java.util.HashMap<Integer, Integer> map;"));
        breaks(4, withMember("int f() { return Math.addExact(1, 2); }"));
        breaks(4, withMember("double f() { return Math.sqrt(2); }"));
        breaks(4, withMember("long f() { return System.nanoTime(); }"));
        breaks(4, withMember("String f() { return \"a\".trim(); }"));
        breaks(5, withMember("static int count;"));
        breaks(5, withMember("static final Object ONE = new Object();"));
        breaks(5, withMember("static { }"));
        breaks(6, withMember("TilePyramid() { throw new RuntimeException(); }"));
        breaks(6, withMember("void f(int k) { throw new RuntimeException(\"k\" + k); }"));
        breaks(6, withMember("void f() { throw new Error(); }"));
        breaks(6, withMember("void f() { try { f(); } catch (RuntimeException e) { } }"));
        breaks(6, withMember("void f() { assert true; }"));
        breaks(6, withMember("void f() { synchronized (this) { } }"));
        breaks(9, withMember("void f() { for (;;) { } }"));
        breaks(9, withMember("void f() { while (true) { } }"));
        breaks(9, withMember("void f() { do { } while (true); }"));
        breaks(10, withMember("String f(int k) { return \"\" + k; }"));
        breaks(10, withMember("void f(String s) { s += 1; }"));
        breaks(11, withMember("void f(int a, int b, int c, int d, int e, int f, int g, int h) { }"));
        breaks(11, withMember("void f() {" + "\n".repeat(60) + "}"));
        breaks(11, withMember("void f() { g(); } void g() { f(); }"));
        breaks(11, withMember("int a, b, c, d, e, f, g, h, i, j, k, l, m, n, o, p, q, r, s, t, u;"));
        breaks(11, withMember(many("static class C# { } ", 12)));
        breaks(11, withMember("void f8() { } " + many("void f#() { f@(); } ", 8)));
        breaks(12, withMember("int[] f() { return new int[3]; }"));
        breaks(12, withMember("Object f() { return new Object(); }"));
    }

    private static String withMember(String member) {
        return "public final class TilePyramid { " + member + " }";
    }

    /** The text so many times, with 0, 1, 2 .. for its # and the next one for its @. */
    private static String many(String text, int times) {
        StringBuilder all = new StringBuilder();
        for (int k = 0; k < times; k++) {
            all.append(text.replace("#", "" + k).replace("@", "" + (k + 1)));
        }
        return all.toString();
    }

    private static void breaks(int rule, String source) throws IOException {
        Set<String> faults = faultsOf(source);
        if (faults.stream().noneMatch(fault -> fault.startsWith("rule " + rule + ":"))) {
            Check.fault("rule " + rule + " is not looked for: " + source + " has " + faults);
        }
    }

    private static Set<String> faultsOf(String source) throws IOException {
        JavaCompiler compiler = ToolProvider.getSystemJavaCompiler();
        JavacTask task = (JavacTask) compiler.getTask(null, null, any -> { },
                List.of("--release", "17", "-proc:none"), null, List.of(fileOf(source)));
        CompilationUnitTree unit = task.parse().iterator().next();
        task.analyze();
        return new LanguageRules(unit, Trees.instance(task)).faults();
    }

    private static JavaFileObject fileOf(String source) {
        URI name = URI.create("string:///TilePyramid.java");
        return new SimpleJavaFileObject(name, JavaFileObject.Kind.SOURCE) {
            @Override
            public CharSequence getCharContent(boolean ignored) {
                return source;
            }
        };
    }
}
