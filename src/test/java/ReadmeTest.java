import java.io.File;
import java.io.IOException;
import java.net.URL;
import java.net.URLClassLoader;
import java.nio.file.Files;
import java.nio.file.Path;
import java.util.ArrayList;
import java.util.List;
import java.util.Set;
import java.util.TreeSet;
import java.util.regex.Matcher;
import java.util.regex.Pattern;
import java.util.stream.Collectors;
import java.util.stream.Stream;
import javax.tools.ToolProvider;

/** README.md keeps its word: its program is compiled and run, and it names each call and each test. */
public final class ReadmeTest {
    private static final Check CHECK = new Check("ReadmeTest");
    private static final Pattern PROGRAM = Pattern.compile("```java\n(.*?)```", Pattern.DOTALL);
    /** A call with its answer behind it; then nothing more, or words. */
    private static final Pattern TOLD = Pattern.compile("(x\\.\\w+\\(.*?\\)); +// (-?\\d+|WonBySeats\\.[A-Z]+)(:.*)?");
    private static final Pattern TEST_NAME = Pattern.compile("`(\\w+Test)`");

    public static void main(String[] args) throws Exception {
        String page = Files.readString(Path.of("README.md"));
        List<String> lines = programOf(page);
        runProgram(lines);
        callsAreNamed(lines);
        testsAreNamed(page);
        CHECK.finish();
    }

    private static List<String> programOf(String page) {
        List<String> lines = new ArrayList<>();
        Matcher pieces = PROGRAM.matcher(page);
        while (pieces.find()) {
            lines.addAll(pieces.group(1).lines().collect(Collectors.toList()));
        }
        return lines;
    }

    /** The program answers a row of numbers: what each told call answered, and what it was told to. */
    private static void runProgram(List<String> lines) throws Exception {
        CHECK.at("program");
        List<String> told = new ArrayList<>();
        StringBuilder source = new StringBuilder("public final class Shown {\npublic static long[] answers() {\n")
            .append("long[] answers = new long[1000];\nint count = 0;\n");
        for (String line : lines) {
            Matcher call = TOLD.matcher(line);
            if (call.matches()) {
                told.add(call.group(1));
                source.append("answers[count++] = ").append(call.group(1)).append(";\n");
                source.append("answers[count++] = ").append(call.group(2)).append(";\n");
            } else {
                CHECK.holds("an answer that can be read: " + line, !line.contains("//"));
                source.append(line).append('\n');
            }
        }
        source.append("return answers;\n}\n}\n");
        long[] answers = answersOf(source.toString());
        for (int i = 0; i < told.size(); i++) {
            CHECK.due(told.get(i), answers[2 * i], answers[2 * i + 1]);
        }
    }

    private static long[] answersOf(String source) throws Exception {
        Path folder = Files.createTempDirectory("shown");
        Path file = folder.resolve("Shown.java");
        Files.writeString(file, source);
        try {
            int wrong = ToolProvider.getSystemJavaCompiler().run(null, null, null, "-cp",
                System.getProperty("java.class.path"), "-d", folder.toString(), file.toString());
            CHECK.due("javac", wrong, 0);
            try (URLClassLoader loader = new URLClassLoader(new URL[] {folder.toUri().toURL()})) {
                return (long[]) loader.loadClass("Shown").getMethod("answers").invoke(null);
            }
        } finally {
            for (File left : folder.toFile().listFiles()) {
                left.delete();
            }
            Files.delete(folder);
        }
    }

    private static void callsAreNamed(List<String> lines) {
        CHECK.at("calls");
        String program = String.join("\n", lines);
        for (String name : Calls.NAMES) {
            CHECK.holds(name + " is shown", program.contains("x." + name + "("));
        }
    }

    private static void testsAreNamed(String page) throws IOException {
        CHECK.at("tests");
        Set<String> named = new TreeSet<>();
        Matcher names = TEST_NAME.matcher(page);
        while (names.find()) {
            named.add(names.group(1));
        }
        try (Stream<Path> files = Files.list(Path.of("src/test/java"))) {
            Set<String> there = files.map(file -> file.getFileName().toString()).filter(name -> name.endsWith("Test.java"))
                .map(name -> name.substring(0, name.indexOf('.'))).collect(Collectors.toCollection(TreeSet::new));
            CHECK.holds("tests are " + there + ", named are " + named, named.equals(there));
        }
    }
}
