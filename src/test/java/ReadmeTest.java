import java.io.StringWriter;
import java.lang.reflect.Method;
import java.lang.reflect.Modifier;
import java.net.URL;
import java.net.URLClassLoader;
import java.nio.file.Files;
import java.nio.file.Path;
import java.util.List;
import java.util.TreeSet;
import java.util.regex.Matcher;
import java.util.regex.Pattern;
import java.util.stream.Collectors;
import java.util.stream.Stream;
import javax.tools.JavaCompiler;
import javax.tools.ToolProvider;

/** What README.md says is so: its run of calls is compiled as it stands there, and each answer is compared. */
public final class ReadmeTest {
    private static final Path TESTS = Path.of("src", "test", "java");
    private static final Pattern BLOCK = Pattern.compile("(?s)```java\n(.*?)```");
    private static final Pattern ANSWERED = Pattern.compile("(t\\.\\w+\\(.*?\\)); +// (-?\\d+|[A-Z]+): .*");

    public static void main(String[] args) throws Exception {
        String readme = Files.readString(Path.of("README.md"));
        Matcher block = BLOCK.matcher(readme);
        Due.that("a run of calls is shown", block.find());
        String shown = block.group(1);
        Due.that("one run of calls is shown", !block.find());
        run(shown);
        namesAllCalls(readme);
        namesAllTests(readme);
        Due.end();
    }

    private static void run(String shown) throws Exception {
        Path place = Files.createTempDirectory("readme");
        try {
            Path source = place.resolve("Shown.java");
            Files.writeString(source, asProgram(shown));
            JavaCompiler compiler = ToolProvider.getSystemJavaCompiler();
            Due.that("there is a compiler", compiler != null);
            int code = compiler == null ? 1 : compiler.run(null, null, null, "-d", place.toString(),
                    "-cp", System.getProperty("java.class.path"), source.toString());
            Due.is("the run of calls compiles", code, 0);
            if (code == 0) {
                try (URLClassLoader loader = new URLClassLoader(new URL[] {place.toUri().toURL()})) {
                    loader.loadClass("Shown").getMethod("run").invoke(null);
                }
            }
        } finally {
            for (Path each : List.of(place.resolve("Shown.java"), place.resolve("Shown.class"), place)) {
                Files.deleteIfExists(each);
            }
        }
    }

    /** Each line that tells an answer becomes a check of it; all others stay as they are. */
    private static String asProgram(String shown) {
        StringWriter program = new StringWriter();
        program.write("public final class Shown extends ReadmeTest.Constants {\npublic static void run() {\n");
        int answers = 0;
        for (String line : shown.split("\n")) {
            Matcher answered = ANSWERED.matcher(line);
            if (answered.matches()) {
                answers++;
                String call = answered.group(1);
                program.write("ReadmeTest.due(\"" + call + "\", " + call + ", " + answered.group(2) + ");\n");
            } else {
                Due.that("a call that tells its answer, or feed: " + line,
                        !line.contains("t.") || line.trim().equals("t.feed(letter);"));
                program.write(line + "\n");
            }
        }
        Due.that("answers are shown", answers > 20);
        program.write("}\n}\n");
        return program.toString();
    }

    /** The table of the calls has each of them once, and no other. */
    private static void namesAllCalls(String readme) {
        TreeSet<String> there = new TreeSet<>();
        for (Method method : BlameTown.class.getDeclaredMethods()) {
            if (Modifier.isPublic(method.getModifiers())) {
                there.add(method.getName());
            }
        }
        TreeSet<String> named = new TreeSet<>();
        Matcher row = Pattern.compile("(?m)^\\| ((?:`[a-z]\\w+` )+)\\| ").matcher(readme);
        while (row.find()) {
            for (String name : row.group(1).replace("`", "").trim().split(" ")) {
                Due.that(name + " is named once", named.add(name));
            }
        }
        Due.that("the calls that are named " + named + " are those there are " + there, named.equals(there));
    }

    private static void namesAllTests(String readme) throws Exception {
        TreeSet<String> there;
        try (Stream<Path> files = Files.list(TESTS)) {
            there = files.map(file -> file.getFileName().toString().replace(".java", ""))
                    .collect(Collectors.toCollection(TreeSet::new));
        }
        String running = readme.substring(Math.max(0, readme.indexOf("## Running its tests")));
        TreeSet<String> named = new TreeSet<>();
        Matcher name = Pattern.compile("`(\\w+Test|Due|Towns|Twins)`").matcher(running);
        while (name.find()) {
            named.add(name.group(1));
        }
        Due.that("the tests that are named " + named + " are those there are " + there, named.equals(there));
        Due.that(".ci/run is there, and can be run", Files.isExecutable(Path.of(".ci", "run")));
    }

    /** Called by the run that is shown. */
    public static void due(String call, long got, long want) {
        Due.is("README: " + call, got, want);
    }

    /** The refusals, by their plain names, as the text of README writes them. */
    public static class Constants {
        protected static final int NONE = BlameTown.NONE;
        protected static final int UNKNOWN = BlameTown.UNKNOWN;
        protected static final int OUTSIDE = BlameTown.OUTSIDE;
        protected static final int NOT = BlameTown.NOT;
        protected static final int FULL = BlameTown.FULL;
    }
}
