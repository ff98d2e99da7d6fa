import java.io.IOException;
import java.lang.reflect.Constructor;
import java.lang.reflect.Field;
import java.lang.reflect.Method;
import java.lang.reflect.Modifier;
import java.nio.file.Files;
import java.nio.file.Path;
import java.util.ArrayList;
import java.util.List;
import java.util.Set;
import java.util.TreeSet;

/** The face, and the rules of LANGUAGE.md as far as SourceRules sees them; run in the project's folder. */
public final class RulesTest {
    private static final Set<String> FACE = new TreeSet<>(List.of(
        "int pad(int)", "int carbons(int)", "int write(int,int,int)", "int tear()", "int undo()", "int word(int)",
        "int forget()", "int type(int)", "int clear()", "int read()", "int of(int,int)", "int dent(int,int)",
        "int about(int,int)", "int force(int,int,int)", "int whose(int)", "int own(int,int)", "int shown(int,int)",
        "int lost(int,int,int,int,int,int)", "int pen(int,int,int,int,int)", "int orders(int)", "int press(int,int)",
        "int copies(int,int,int,int)", "int rub(int,int,int)", "int torn(int)", "int drawn(int,int)",
        "long part(int)", "int image(int)", "int from(int)", "int status(int)", "int count(int)", "long digest()"));

    private static int wrong = 0;

    private static void expect(boolean holds, String what) {
        if (!holds) {
            wrong++;
            System.out.println("RulesTest: " + what);
        }
    }

    public static void main(String[] args) throws IOException {
        face();
        nested();
        for (String broken : SourceRules.brokenIn(Files.readString(Path.of("src/main/java/PressedPad.java")))) {
            expect(false, broken);
        }
        seen();
        System.out.println(wrong == 0 ? "RulesTest: all as due" : "RulesTest: " + wrong + " are wrong");
        System.exit(wrong == 0 ? 0 : 1);
    }

    private static void face() {
        Class<?> c = PressedPad.class;
        expect(Modifier.isPublic(c.getModifiers()) && Modifier.isFinal(c.getModifiers()), "public and final");
        Set<String> open = new TreeSet<>();
        Set<String> names = new TreeSet<>();
        for (Method m : c.getDeclaredMethods()) {
            if (Modifier.isPublic(m.getModifiers())) {
                List<String> types = new ArrayList<>();
                for (Class<?> type : m.getParameterTypes()) {
                    types.add(type.getSimpleName());
                }
                open.add(m.getReturnType().getSimpleName() + " " + m.getName() + "(" + String.join(",", types) + ")");
                names.add(m.getName());
            }
        }
        expect(open.equals(FACE), "the face is " + open);
        for (Method m : c.getDeclaredMethods()) {
            boolean closed = Modifier.isPrivate(m.getModifiers()) && !names.contains(m.getName());
            expect(Modifier.isPublic(m.getModifiers()) || closed, "rule 1: method " + m.getName());
        }
        Set<String> constants = new TreeSet<>(List.of("NONE", "BAD", "NO", "FULL"));
        for (Field f : c.getDeclaredFields()) {
            boolean told = constants.contains(f.getName()) && Modifier.isPublic(f.getModifiers());
            expect(told || Modifier.isPrivate(f.getModifiers()), "rule 1: field " + f.getName());
        }
        Constructor<?>[] made = c.getDeclaredConstructors();
        boolean one = made.length == 1 && made[0].getParameterCount() == 0;
        expect(one && Modifier.isPublic(made[0].getModifiers()), "one public constructor");
    }

    private static void nested() {
        for (Class<?> c : PressedPad.class.getDeclaredClasses()) {
            expect(Modifier.isStatic(c.getModifiers()), "rule 2: " + c.getName());
            expect(!Modifier.isPublic(c.getModifiers()) && !Modifier.isProtected(c.getModifiers()), "rule 1: " + c);
        }
    }

    // ---- that SourceRules sees what it is to see

    private static void seen() throws IOException {
        refused(0, "int a() { return 1; }");
        refused(0, "static final int ONE = 1 << 3; static final int[] ROW = {1, 2}; int a() { return ROW[0]; }");
        refused(1, "} class Other {");
        refused(1, "static class A { public int b() { return 1; } }");
        refused(2, "class A { }");
        refused(2, "int a() { class B { int c; } return 1; }");
        refused(2, "int a() { Runnable r = () -> { }; return 1; }");
        refused(2, "int a() { Runnable r = this::b; return 1; } void b() { }");
        refused(3, "double a;");
        refused(3, "Object a;");
        refused(3, "int[][][] a;");
        refused(3, "static class A { } A[][] a;");
        refused(4, "int a() { return Math.addExact(1, 2); }");
        refused(4, "long a() { return System.nanoTime(); }");
        refused(4, "int a() { return Integer.MAX_VALUE; }");
        refused(4, "int a() { return hashCode(); }");
        refused(4, "java.util.Random a = new java.util.Random();");
        refused(5, "static int a = 1;");
        refused(5, "static { }");
        refused(6, "int a() { try { return 1; } finally { } }");
        refused(6, "void a() { throw null; }");
        refused(6, "int a(int b) { assert b > 0; return 1; }");
        refused(6, "synchronized int a() { synchronized (this) { return 1; } }");
        refused(6, "boolean a(String b, String c) { return b == c; }");
        refused(6, "public int hashCode() { return 1; }");
        refused(8, "private int a(int n) { return n < 1 ? 0 : b(n); } private int b(int n) { return a(n - 1); }"
            + "public int c() { return a(3); }");
        refused(9, "void a() { while (true) { } }");
        refused(9, "int a() { for (;;) { if (a() > 1) { return 1; } } }");
        refused(10, "String a(String b) { return b + \"c\"; }");
        refused(10, "void a(String b) { b += \"c\"; }");
        refused(0, "int a(int b, int c, int d, int e, int f, int g, int h) { return b; }");
        refused(11, "int a(int b, int c, int d, int e, int f, int g, int h, int i) { return b; }");
        refused(0, "void a() {" + "\n".repeat(59) + "}");
        refused(11, "void a() {" + "\n".repeat(60) + "}");
        refused(0, numbered("static class A%d { }", 11));
        refused(11, numbered("static class A%d { }", 12));
        refused(0, numbered("int a%d;", 20));
        refused(11, numbered("int a%d;", 21));
        refused(0, chain(8));
        refused(11, chain(9));
        refused(11, "static class A { void a() { } } static class B extends A { void a() { m2(); } }"
            + "public void b(A one) { one.a(); }" + chain(8));
        refused(12, "int a() { int[] b = new int[3]; return b[0]; }");
        refused(12, "static class A { } A a() { return new A(); }");
    }

    private static String numbered(String member, int n) {
        StringBuilder s = new StringBuilder();
        for (int i = 0; i < n; i++) {
            s.append(member.formatted(i));
        }
        return s.toString();
    }

    /** A call that goes so deep. */
    private static String chain(int deep) {
        StringBuilder s = new StringBuilder("public void m1() { m2(); }");
        for (int i = 2; i <= deep; i++) {
            String body = i < deep ? "m" + (i + 1) + "(); " : "";
            s.append("private static void m").append(i).append("() { ").append(body).append("}");
        }
        return s.toString();
    }

    /** Rule 0: none is broken. */
    private static void refused(int rule, String members) throws IOException {
        List<String> broken = SourceRules.brokenIn("public final class PressedPad {" + members + "}");
        boolean found = false;
        for (String one : broken) {
            found |= one.startsWith("rule " + rule + ":") || one.startsWith("rule " + rule + ",");
        }
        expect(rule == 0 ? broken.isEmpty() : found, "rule " + rule + " in '" + members + "': " + broken);
    }
}
