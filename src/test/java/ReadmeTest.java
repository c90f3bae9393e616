import java.io.IOException;
import java.nio.file.Files;
import java.nio.file.Path;
import java.util.ArrayList;
import java.util.List;
import java.util.TreeSet;
import java.util.regex.Matcher;
import java.util.regex.Pattern;
import java.util.stream.Stream;
import javax.tools.ToolProvider;

/**
 * README.md: its Java is compiled and run, and each number behind // is held against what the call answers. Run from
 * the project's root.
 */
public final class ReadmeTest {
    private static final Path README = Path.of("README.md");
    private static final Path TESTS = Path.of("src/test/java");
    private static final Pattern BLOCK = Pattern.compile("^```java\n(.*?)^```$", Pattern.DOTALL | Pattern.MULTILINE);
    private static final Pattern ASKED = Pattern.compile("(\\S.*\\));\\s+// (-?\\d+)\\b.*");
    private static final String UNASKED = "SumWalker x = new SumWalker\\(\\);|feedText\\(x, \".*\"\\);";
    private static final int CALLS_OF_AN_OBJECT = 512;

    public static void main(String[] args) throws Exception {
        String page = Files.readString(README);
        StringBuilder methods = new StringBuilder();
        List<String> lines = new ArrayList<>();
        Matcher block = BLOCK.matcher(page);
        while (block.find()) {
            if (block.group(1).startsWith("static ")) {
                methods.append(block.group(1));
            } else {
                lines.addAll(block.group(1).lines().toList());
            }
        }
        known(lines);
        run(methods.toString(), lines);
        tests(page);
        Due.end();
    }

    /** Each line tells what it answers, or needs no answer; all of them are few enough for one object. */
    private static void known(List<String> lines) {
        int asked = 0;
        int fed = 0;
        for (String line : lines) {
            boolean answered = ASKED.matcher(line).matches();
            asked += answered ? 1 : 0;
            fed += line.startsWith("feedText") ? CALLS_OF_AN_OBJECT / 20 : 0;
            Due.is("README.md tells what this line answers: " + line, answered || line.matches(UNASKED) ? 1 : 0, 1);
        }
        Due.is("README.md shows calls", asked > 50 ? 1 : 0, 1);
        Due.is("README.md uses its object up", asked + fed > CALLS_OF_AN_OBJECT ? 1 : 0, 0);
    }

    /** Compiled beside this class, so that it sees the program and Due. */
    private static void run(String methods, List<String> lines) throws Exception {
        Path beside = Path.of(ReadmeTest.class.getProtectionDomain().getCodeSource().getLocation().toURI());
        Path source = beside.resolve("Shown.java");
        StringBuilder code = new StringBuilder("final class Shown {\n" + methods + "static void show() {\n");
        for (String line : lines) {
            code.append(checked(line)).append('\n');
        }
        Files.writeString(source, code + "}\n}\n");
        int failed = ToolProvider.getSystemJavaCompiler().run(null, null, null,
            "-cp", beside.toString(), "-d", beside.toString(), source.toString());
        Due.is("README.md's Java compiles, else", failed, 0);
        if (failed == 0) {
            Class.forName("Shown").getDeclaredMethod("show").invoke(null);
        }
    }

    private static String checked(String line) {
        Matcher asked = ASKED.matcher(line);
        if (!asked.matches()) {
            return line;
        }
        String call = asked.group(1);
        return "Due.is(\"README.md: " + call + "\", " + call + ", " + asked.group(2) + ");";
    }

    /** README.md names each test that there is, and no other one. */
    private static void tests(String page) throws IOException {
        TreeSet<String> there = new TreeSet<>();
        try (Stream<Path> files = Files.list(TESTS)) {
            files.map(file -> file.getFileName().toString().replace(".java", ""))
                .filter(name -> name.endsWith("Test")).forEach(there::add);
        }
        TreeSet<String> named = new TreeSet<>();
        Matcher name = Pattern.compile("([A-Z]\\w*Test)`").matcher(page);
        while (name.find()) {
            named.add(name.group(1));
        }
        Due.is("README.md names " + named + ", there are " + there, named.equals(there) ? 1 : 0, 1);
    }
}
