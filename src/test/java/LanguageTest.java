import java.io.IOException;
import java.lang.reflect.Constructor;
import java.lang.reflect.Field;
import java.lang.reflect.Method;
import java.lang.reflect.Modifier;
import java.nio.file.Files;
import java.nio.file.Path;
import java.util.ArrayList;
import java.util.List;
import java.util.TreeSet;
import java.util.regex.Matcher;
import java.util.regex.Pattern;

/** The program against ../shared/LANGUAGE.md, as far as a text and a class can tell; run from the project's root. */
public final class LanguageTest {
    private static final Path PROGRAM = Path.of("src/main/java/SumWalker.java");
    private static final Path DOCUMENT = Path.of("../shared/DOC.md");
    private static final String[] BARRED = {
        "\\bthrow\\b", "\\btry\\b", "\\bcatch\\b", "\\bfinally\\b", "\\bsynchronized\\b", "\\bassert\\b", "->", "::",
        "\\bimport\\b", "\\bpackage\\b", "Exact\\b", "\\bSystem\\b", "\\bObject\\b", "\\binstanceof\\b", "@",
        "\\bvolatile\\b", "\\btransient\\b", "\\bvar\\b", "\"[^\"]*\"\\s*\\+", "\\+\\s*\"", "\\bprotected\\b"
    };

    public static void main(String[] args) throws IOException {
        String source = Files.readString(PROGRAM);
        face();
        members();
        words(source);
        objects(source);
        lengths(source);
        Due.end();
    }

    private static void face() throws IOException {
        TreeSet<String> due = new TreeSet<>();
        Matcher m = Pattern.compile("^    public (int|long) (\\w+)\\(([^)]*)\\);$", Pattern.MULTILINE)
            .matcher(Files.readString(DOCUMENT));
        while (m.find()) {
            due.add(m.group(1) + " " + m.group(2) + "(" + m.group(3).replaceAll(" \\w+(,|$)", "$1") + ")");
        }
        TreeSet<String> got = new TreeSet<>();
        for (Method method : SumWalker.class.getDeclaredMethods()) {
            if (!Modifier.isPrivate(method.getModifiers())) {
                List<String> types = new ArrayList<>();
                for (Class<?> type : method.getParameterTypes()) {
                    types.add(type.getName());
                }
                boolean plain = method.getModifiers() == Modifier.PUBLIC;
                got.add((plain ? "" : "not plainly public: ") + method.getReturnType().getName() + " "
                    + method.getName() + "(" + String.join(", ", types) + ")");
            }
        }
        Due.is("how many methods the document has", due.size(), 58);
        Due.is("rule 1: the face is the document's: " + got, got.equals(due) ? 1 : 0, 1);
        Due.is("rule 1: public and final", SumWalker.class.getModifiers(), Modifier.PUBLIC | Modifier.FINAL);
        Constructor<?>[] made = SumWalker.class.getDeclaredConstructors();
        Due.is("rule 1: one constructor", made.length, 1);
        Due.is("rule 1: it is public", made[0].getModifiers(), Modifier.PUBLIC);
        Due.is("rule 1: without parameters", made[0].getParameterCount(), 0);
    }

    private static void members() {
        TreeSet<String> face = new TreeSet<>();
        for (Method method : SumWalker.class.getMethods()) {
            face.add(method.getName());
        }
        List<Class<?>> classes = new ArrayList<>(List.of(SumWalker.class.getDeclaredClasses()));
        Due.is("rule 11: classes", classes.size() + 1 <= 12 ? 1 : 0, 1);
        for (Class<?> inner : classes) {
            Due.is("rule 1: " + inner + " is static, not public",
                Modifier.isStatic(inner.getModifiers()) && !Modifier.isPublic(inner.getModifiers()) ? 1 : 0, 1);
        }
        classes.add(SumWalker.class);
        for (Class<?> one : classes) {
            int fields = 0;
            for (Field field : one.getDeclaredFields()) {
                boolean fixed = Modifier.isStatic(field.getModifiers());
                fields += fixed ? 0 : 1;
                Due.is("rule 5: " + field, !fixed || Modifier.isFinal(field.getModifiers()) ? 1 : 0, 1);
                boolean hidden = Modifier.isPrivate(field.getModifiers()) || field.getName().equals("NONE");
                Due.is("rule 1: " + field, one != SumWalker.class || hidden ? 1 : 0, 1);
            }
            Due.is("rule 11: fields of " + one, fields <= 20 ? 1 : 0, 1);
            for (Method method : one.getDeclaredMethods()) {
                boolean clash = Modifier.isPrivate(method.getModifiers()) && face.contains(method.getName());
                Due.is("rule 1: name of " + method, clash ? 1 : 0, 0);
                Due.is("rule 11: parameters of " + method, method.getParameterCount() <= 7 ? 1 : 0, 1);
            }
        }
    }

    private static void words(String source) {
        String code = source.replaceAll("(?s)/\\*.*?\\*/", "").replaceAll("//[^\n]*", "");
        for (String barred : BARRED) {
            Matcher m = Pattern.compile(barred).matcher(code);
            Due.is("barred: " + barred, m.find() ? 1 : 0, 0);
        }
        Due.is("signs above 127", source.chars().filter(c -> c > 127).count(), 0);
        Matcher calls = Pattern.compile("\\b(Math|Integer|Long|Arrays|List)\\.(\\w+)").matcher(code);
        while (calls.find()) {
            Due.is("rule 4: " + calls.group(), List.of("max", "min", "compare").contains(calls.group(2)) ? 1 : 0, 1);
        }
    }

    /** All that is made is made with the object, so that a call makes nothing. */
    private static void objects(String source) {
        int made = 0;
        for (String line : source.split("\n")) {
            if (line.matches(".*\\bnew \\w.*")) {
                boolean field = line.matches("\\s+(private )?final \\S+ \\w+ = new .*;");
                boolean inConstructor = line.matches("            (acts|walks)\\[i\\] = new .*;");
                Due.is("rule 12: " + line.trim(), field || inConstructor ? 1 : 0, 1);
                made++;
            }
        }
        Due.is("lines that make something", made > 0 ? 1 : 0, 1);
    }

    private static void lengths(String source) {
        int begin = 0;
        int number = 0;
        for (String line : source.split("\n")) {
            number++;
            if (line.matches("    (    )?[a-z][^=;]*\\) \\{")) {
                begin = number;
            }
            if (line.matches("    (    )?}") && begin > 0) {
                Due.is("rule 11: lines of the method at " + begin, number - begin <= 60 ? 1 : 0, 1);
                begin = 0;
            }
        }
    }
}
