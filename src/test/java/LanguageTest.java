import java.io.IOException;
import java.lang.reflect.Constructor;
import java.lang.reflect.Field;
import java.lang.reflect.Method;
import java.lang.reflect.Modifier;
import java.nio.charset.StandardCharsets;
import java.nio.file.Files;
import java.nio.file.Path;
import java.util.Arrays;
import java.util.Set;
import java.util.TreeSet;
import java.util.regex.Matcher;
import java.util.regex.Pattern;

/** What of ../shared/LANGUAGE.md a test can see: the face, the words of the source, sizes. */
public final class LanguageTest {
    private static final Path SOURCE = Path.of("src/main/java/PathRide.java");

    private static final String[] FACE = {
        "int feed(int,int,int,int,int)", "int end(int)", "int program()", "int block(int,int)", "int corner(int,int)",
        "int ticks(int)", "int give(int)", "boolean hold()", "boolean letGo()", "int undo()", "int where(int)",
        "int place(int,int)", "int ahead(int,int)", "int till()", "int tried(int,int)", "int slowest(int)",
        "int brakes(int)", "int least(int,int)", "int spots()", "int spot(int,int)", "int comes(int,int,int)",
        "int twice(int)", "int run(int)", "int halt(int)", "int due(int)", "int binds(int)", "int layer(int,int)",
        "int meets(int)", "int box(int,int)", "int near(int,int,int,int)", "int keep(int)", "int common(int)",
        "int image(int)", "int back(int)", "int count(int)"};

    private static final String[] FORBIDDEN = {
        "\\bimport\\b", "\\bpackage\\b", "\\bthrows?\\b", "\\btry\\b", "\\bcatch\\b", "\\bsynchronized\\b",
        "\\bassert\\b", "->", "::", "\\bstatic\\s*\\{", "\\bSystem\\s*\\.\\s*(?!arraycopy)", "\\bThread\\b",
        "\\bMath\\s*\\.\\s*(?!min\\b|max\\b|abs\\b)", "\\bObject\\b", "\\bString\\s*\\[", "\\bhashCode\\b",
        "\\btoString\\b", "\\bdouble\\b", "\\bfloat\\b", "\\bInteger\\b", "\\bLong\\b", "\\bArrays\\b", "\\bequals\\b",
        "\\bwhile\\s*\\(\\s*true", "for\\s*\\(\\s*;\\s*;", "\\[\\]\\s*\\[\\]\\s*\\[\\]", "\\binstanceof\\b"};

    public static void main(String[] args) throws IOException {
        face();
        String code = withoutComments(Files.readString(SOURCE, StandardCharsets.UTF_8));
        words(code);
        classes();
        methods(code);
        Desk.finish("LanguageTest");
    }

    private static void fault(String what, boolean is) {
        Desk.due(what, is, false);
    }

    private static String signature(Method m) {
        StringBuilder text = new StringBuilder(m.getReturnType().getName() + " " + m.getName() + "(");
        String comma = "";
        for (Class<?> type : m.getParameterTypes()) {
            text.append(comma).append(type.getName());
            comma = ",";
        }
        return text.append(")").toString();
    }

    private static void face() {
        Class<?> of = PathRide.class;
        Set<String> names = new TreeSet<>();
        Set<String> found = new TreeSet<>();
        for (Method m : of.getDeclaredMethods()) {
            if (Modifier.isPublic(m.getModifiers())) {
                found.add(signature(m));
                names.add(m.getName());
                fault("static " + m, Modifier.isStatic(m.getModifiers()));
            } else {
                fault("seen from outside: " + m, !Modifier.isPrivate(m.getModifiers()));
            }
        }
        Desk.due("methods of the face: " + found, found.equals(new TreeSet<>(Arrays.asList(FACE))), true);
        for (Class<?> inner : of.getDeclaredClasses()) {
            fault("not static: " + inner, !Modifier.isStatic(inner.getModifiers()));
            for (Method m : inner.getDeclaredMethods()) {
                fault("named as one of the face: " + m, names.contains(m.getName()));
            }
        }
        for (Method m : of.getDeclaredMethods()) {
            fault("private, named as a public one: " + m,
                Modifier.isPrivate(m.getModifiers()) && names.contains(m.getName()));
        }
        Constructor<?>[] constructors = of.getDeclaredConstructors();
        Desk.due("constructors", constructors.length, 1);
        Desk.due("of no argument", constructors[0].getParameterCount(), 0);
        for (Field f : of.getDeclaredFields()) {
            boolean shown = !Modifier.isPrivate(f.getModifiers());
            Desk.due("shown: " + f, shown, f.getName().equals("NONE"));
        }
        Desk.due("NONE", PathRide.NONE, -1);
        Desk.due("public and final", Modifier.isPublic(of.getModifiers()) && Modifier.isFinal(of.getModifiers()), true);
    }

    private static void words(String code) {
        for (String no : FORBIDDEN) {
            Matcher m = Pattern.compile(no).matcher(code);
            fault(no + " stands in the source", m.find());
        }
        for (int i = 0; i < code.length(); i++) {
            if (code.charAt(i) > 126) {
                fault("a sign above 126 at " + i, true);
            }
        }
    }

    private static void classes() {
        Class<?>[] inner = PathRide.class.getDeclaredClasses();
        Desk.due("twelve classes at most", inner.length + 1 <= 12, true);
        fields(PathRide.class);
        for (Class<?> of : inner) {
            fields(of);
        }
    }

    private static void fields(Class<?> of) {
        int n = 0;
        for (Field f : of.getDeclaredFields()) {
            boolean constant = Modifier.isStatic(f.getModifiers());
            fault("static, not final: " + f, constant && !Modifier.isFinal(f.getModifiers()));
            n += constant ? 0 : 1;
        }
        Desk.due("twenty fields at most: " + of, n <= 20, true);
        for (Method m : of.getDeclaredMethods()) {
            Desk.due("seven parameters at most: " + m, m.getParameterCount() <= 7, true);
        }
    }

    private static void methods(String code) {
        String[] lines = code.split("\n", -1);
        int from = 0;
        for (int i = 0; i < lines.length; i++) {
            if (lines[i].matches(" {4}( {4})?\\w.*\\) \\{")) {
                from = i;
            }
            if (lines[i].matches(" {4}( {4})?\\}")) {
                fault("longer than sixty lines, up to line " + (i + 1), i - from > 60 && !lines[from].contains("class"));
            }
        }
    }

    /** The source with blanks in place of comments and of what stands between quotes. */
    private static String withoutComments(String source) {
        Matcher m = Pattern.compile("/\\*.*?\\*/|//[^\n]*|\"[^\"\n]*\"", Pattern.DOTALL).matcher(source);
        StringBuilder code = new StringBuilder();
        while (m.find()) {
            m.appendReplacement(code, m.group().replaceAll("[^\n]", " "));
        }
        m.appendTail(code);
        return code.toString();
    }
}
