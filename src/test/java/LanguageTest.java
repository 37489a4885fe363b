import java.io.IOException;
import java.lang.reflect.Constructor;
import java.lang.reflect.Field;
import java.lang.reflect.Method;
import java.lang.reflect.Modifier;
import java.nio.file.Files;
import java.nio.file.Path;
import java.util.ArrayList;
import java.util.List;
import java.util.Set;
import java.util.TreeSet;
import java.util.regex.Matcher;
import java.util.regex.Pattern;

/** The face, and what of LANGUAGE.md can be seen from the source and from the compiled class. */
final class LanguageTest {
    private static final String[] FACE = {
        "boolean partition()", "boolean restore()", "int canton(int)", "int cell(int,int)", "int coming(int,int)",
        "int count(int)", "int covered(int)", "int fault()", "int feed(int,int,int,int,int)", "int game(int,int,int,int)",
        "int hat(int)", "int heir(int,int)", "int hours(int)", "int look(int)", "int person(int,int)", "int push(int,int)",
        "int row(int,int,int)", "int see(int,int,int)", "int stand(int,int,int)", "int thaw(int)", "int then(int,int)",
        "int trespass(int,int,int)", "int undo()", "int walk(int,int)", "int wind(int)", "int winter(int,int,int)",
        "void forget()", "void image()",
    };
    private static final String[] FORBIDDEN = {
        "->", "::", "\\bfinally\\b", "\\btry\\b", "\\bsynchronized\\b", "\\bassert\\b", "\\bdouble\\b.*Math", "Exact\\b",
        "\\bprotected\\b", "System\\.(?!arraycopy)", "\\bRandom\\b", "\\bThread\\b", "\" \\+", "\\+ \"", "\\bstatic \\{",
    };

    private LanguageTest() {
    }

    public static void main(String[] args) throws IOException {
        face();
        nestedClasses();
        source(Files.readAllLines(Path.of("src/main/java/SnowCanton.java")));
        Check.end("LanguageTest");
    }

    private static void face() {
        Set<String> open = new TreeSet<>();
        Set<String> hidden = new TreeSet<>();
        Set<String> names = new TreeSet<>();
        for (Method m : SnowCanton.class.getDeclaredMethods()) {
            StringBuilder s = new StringBuilder(m.getReturnType() + " " + m.getName() + "(");
            for (Class<?> p : m.getParameterTypes()) {
                s.append(s.charAt(s.length() - 1) == '(' ? "" : ",").append(p);
            }
            s.append(')');
            if (Modifier.isPublic(m.getModifiers())) {
                open.add(s.toString());
                names.add(m.getName());
            } else {
                Check.holds(m + " is private", Modifier.isPrivate(m.getModifiers()));
                hidden.add(m.getName());
            }
        }
        Check.holds("the face is " + open, open.equals(new TreeSet<>(List.of(FACE))));
        hidden.retainAll(names);
        Check.holds("no private method is named " + hidden, hidden.isEmpty());
        for (Field f : SnowCanton.class.getDeclaredFields()) {
            Check.holds(f + " is private, or NONE", Modifier.isPrivate(f.getModifiers()) || f.getName().equals("NONE"));
        }
        Constructor<?>[] made = SnowCanton.class.getDeclaredConstructors();
        Check.holds("one constructor", made.length == 1 && Modifier.isPublic(made[0].getModifiers()));
        Check.holds("final", Modifier.isFinal(SnowCanton.class.getModifiers()));
    }

    private static void nestedClasses() {
        List<Class<?>> all = new ArrayList<>(List.of(SnowCanton.class.getDeclaredClasses()));
        Check.holds("at most twelve classes", all.size() < 12);
        Set<String> face = new TreeSet<>();
        for (Method m : SnowCanton.class.getDeclaredMethods()) {
            if (Modifier.isPublic(m.getModifiers())) {
                face.add(m.getName());
            }
        }
        for (Class<?> c : all) {
            Check.holds(c + " is static and not public", Modifier.isStatic(c.getModifiers()) && !Modifier.isPublic(c.getModifiers()));
            for (Method m : c.getDeclaredMethods()) {
                Check.holds(m + " bears a name of its own", !face.contains(m.getName()));
                Check.holds(m + " has at most seven parameters", m.getParameterCount() <= 7);
            }
            for (Field f : c.getDeclaredFields()) {
                Check.holds(f + ", if static, is final", !Modifier.isStatic(f.getModifiers()) || Modifier.isFinal(f.getModifiers()));
            }
            long own = List.of(c.getDeclaredFields()).stream().filter(f -> !Modifier.isStatic(f.getModifiers())).count();
            Check.holds(c + " has few fields", own <= 20);
        }
    }

    private static void source(List<String> lines) {
        int length = 0;
        String name = "";
        Pattern begins = Pattern.compile("^ {4}(?: {4})?(?:[a-z]\\S* )+(\\w+)\\(.*\\{$");
        Pattern imports = Pattern.compile("import java\\.util\\.(Arrays|NoSuchElementException);");
        for (String line : lines) {
            String code = line.replaceAll("//.*|^\\s*/\\*\\*.*|^\\s*\\*.*", "");
            for (String no : FORBIDDEN) {
                Check.holds("<" + no + "> in: " + line, !Pattern.compile(no).matcher(code).find());
            }
            Check.holds("import: " + line, !code.startsWith("import") || imports.matcher(code).matches());
            Check.holds("plain signs: " + line, line.chars().allMatch(c -> c >= 32 && c < 127));
            Matcher m = begins.matcher(code);
            if (m.matches()) {
                name = m.group(1);
                length = 0;
            }
            length++;
            Check.holds(name + " is short", length <= 60 || !code.equals("        }"));
        }
    }
}
