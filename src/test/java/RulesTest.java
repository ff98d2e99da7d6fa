import java.io.IOException;
import java.lang.reflect.Constructor;
import java.lang.reflect.Field;
import java.lang.reflect.Method;
import java.lang.reflect.Modifier;
import java.nio.file.Files;
import java.nio.file.Path;
import java.util.ArrayList;
import java.util.List;
import java.util.Set;
import java.util.TreeSet;
import java.util.regex.Matcher;
import java.util.regex.Pattern;

/** The face, and those rules of LANGUAGE.md that can be seen in the source's words; run in the project's folder. */
public final class RulesTest {
    private static final Set<String> FACE = new TreeSet<>(List.of(
        "int pad(int)", "int carbons(int)", "int write(int,int,int)", "int tear()", "int undo()", "int word(int)",
        "int forget()", "int type(int)", "int clear()", "int read()", "int of(int,int)", "int dent(int,int)",
        "int about(int,int)", "int force(int,int,int)", "int whose(int)", "int own(int,int)", "int shown(int,int)",
        "int lost(int,int,int,int,int,int)", "int pen(int,int,int,int,int)", "int orders(int)", "int press(int,int)",
        "int copies(int,int,int,int)", "int rub(int,int,int)", "int torn(int)", "int drawn(int,int)",
        "long part(int)", "int image(int)", "int from(int)", "int status(int)", "int count(int)", "long digest()"));

    private static int wrong = 0;

    private static void expect(boolean holds, String what) {
        if (!holds) {
            wrong++;
            System.out.println("RulesTest: " + what);
        }
    }

    public static void main(String[] args) throws IOException {
        face();
        nested();
        String source = Files.readString(Path.of("src/main/java/PressedPad.java"));
        words(source.replaceAll("(?s)/\\*.*?\\*/", "").replaceAll("//[^\n]*", ""));
        methods(source);
        made(source);
        System.out.println(wrong == 0 ? "RulesTest: all as due" : "RulesTest: " + wrong + " are wrong");
        System.exit(wrong == 0 ? 0 : 1);
    }

    private static void face() {
        Class<?> c = PressedPad.class;
        expect(Modifier.isPublic(c.getModifiers()) && Modifier.isFinal(c.getModifiers()), "public and final");
        Set<String> open = new TreeSet<>();
        Set<String> names = new TreeSet<>();
        for (Method m : c.getDeclaredMethods()) {
            if (Modifier.isPublic(m.getModifiers())) {
                List<String> types = new ArrayList<>();
                for (Class<?> type : m.getParameterTypes()) {
                    types.add(type.getSimpleName());
                }
                open.add(m.getReturnType().getSimpleName() + " " + m.getName() + "(" + String.join(",", types) + ")");
                names.add(m.getName());
            }
        }
        expect(open.equals(FACE), "the face is " + open);
        for (Method m : c.getDeclaredMethods()) {
            boolean closed = Modifier.isPrivate(m.getModifiers()) && !names.contains(m.getName());
            expect(m.isSynthetic() || Modifier.isPublic(m.getModifiers()) || closed, "rule 1: method " + m.getName());
        }
        Set<String> constants = new TreeSet<>(List.of("NONE", "BAD", "NO", "FULL"));
        for (Field f : c.getDeclaredFields()) {
            boolean told = constants.contains(f.getName()) && Modifier.isPublic(f.getModifiers());
            expect(told || Modifier.isPrivate(f.getModifiers()), "rule 1: field " + f.getName());
        }
        Constructor<?>[] made = c.getDeclaredConstructors();
        expect(made.length == 1 && made[0].getParameterCount() == 0, "one constructor");
    }

    private static void nested() {
        Class<?>[] all = PressedPad.class.getDeclaredClasses();
        expect(all.length <= 11, "rule 11: twelve classes, there are " + (all.length + 1));
        for (Class<?> c : all) {
            expect(Modifier.isStatic(c.getModifiers()), "rule 2: " + c.getName());
            expect(!Modifier.isPublic(c.getModifiers()) && !Modifier.isProtected(c.getModifiers()), "rule 1: " + c);
            fields(c);
        }
        fields(PressedPad.class);
    }

    private static void fields(Class<?> c) {
        int own = 0;
        for (Field f : c.getDeclaredFields()) {
            own += Modifier.isStatic(f.getModifiers()) ? 0 : 1;
            expect(!Modifier.isStatic(f.getModifiers()) || Modifier.isFinal(f.getModifiers()), "rule 5: " + f);
        }
        expect(own <= 20, "rule 11: twenty fields in " + c);
    }

    private static void words(String code) {
        String refused = "\\b(throw|throws|try|catch|finally|synchronized|assert|import|package|protected|hashCode"
            + "|toString|Object|System\\.(?!arraycopy)|Random|Thread|double|float|var|Exact)\\b|->|::|\\w+Exact\\(";
        Matcher m = Pattern.compile(refused).matcher(code);
        while (m.find()) {
            expect(false, "a word that the rules leave out: " + m.group());
        }
        expect(!Pattern.compile("while \\(true\\)|for \\(;;\\)").matcher(code).find(), "rule 9: a loop without an end");
    }

    private static void methods(String source) {
        String[] lines = source.split("\n");
        for (int i = 0; i < lines.length; i++) {
            Matcher m = Pattern.compile("^( +)[\\w\\[\\] ]+\\(([^()]*)\\) \\{$").matcher(lines[i]);
            boolean head = m.find() && !lines[i].matches(" +(if|for|while|switch|return|else).*");
            if (head) {
                expect(m.group(2).split(",").length <= 7, "rule 11: seven parameters: " + lines[i]);
                int end = i;
                while (end < lines.length && !lines[end].equals(m.group(1) + "}")) {
                    end++;
                }
                expect(end - i <= 60, "rule 11: sixty lines: " + lines[i]);
            }
        }
    }

    /** All is made with the object, in its fields: so what a run of calls makes does not grow with the calls. */
    private static void made(String source) {
        for (String line : source.split("\n")) {
            boolean field = line.contains("private final ") || line.contains("new Pencil(), new Ball()");
            expect(!line.matches(".*\\bnew [A-Za-z]+[\\[(].*") || field, "rule 12: made in a call: " + line.trim());
        }
    }
}
