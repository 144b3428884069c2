import java.io.File;
import java.io.IOException;
import java.nio.charset.StandardCharsets;
import java.nio.file.Files;
import java.nio.file.Path;
import java.util.ArrayList;
import java.util.Comparator;
import java.util.List;
import java.util.Set;
import java.util.TreeSet;
import java.util.regex.Matcher;
import java.util.regex.Pattern;
import java.util.stream.Collectors;
import java.util.stream.Stream;

/** README.md is so as it stands: its example answers what it shows, and its rows on the tests can be run. */
public final class ReadmeTest {
    private static final Path README = Path.of("README.md");
    private static final Path TESTS = Path.of("src/test/java");
    private static final Path RUN = Path.of(".ci/run");
    private static final String CLASS = "src/main/java/NoneSees.java";

    private static final Pattern EXAMPLE = Pattern.compile("(?s)```java\n(.*?)```");
    private static final Pattern SHOWN = Pattern.compile("(?:int|long) (\\w+) = x\\..*; *// (-?\\d+)(?::.*)?");
    private static final Pattern ROW = Pattern.compile("(?m)^\\| `(\\w+)` \\|");
    private static final Pattern COMMAND = Pattern.compile("(?m)^    (\\S.*)$");

    private static int wrong = 0;

    public static void main(String[] args) throws Exception {
        String text = Files.readString(README, StandardCharsets.US_ASCII);
        Path folder = Files.createTempDirectory("readme");
        try {
            example(text, folder);
            table(text);
            commands(text, folder);
        } finally {
            remove(folder);
        }
        System.out.println("what README.md shows: " + wrong + " wrong");
        if (wrong != 0) {
            System.exit(1);
        }
    }

    private static void is(boolean good, String what) {
        if (!good) {
            wrong++;
            System.out.println("README.md: " + what);
        }
    }

    /** The example becomes a program that looks at each answer it shows. */
    private static void example(String text, Path folder) throws Exception {
        Matcher m = EXAMPLE.matcher(text);
        is(m.find(), "there is no example");
        StringBuilder program = new StringBuilder("public class Shown {\n"
            + "static int wrong = 0;\n"
            + "static void due(String shown, long got, long want) {\n"
            + "if (got != want) { wrong++; System.out.println(shown + \", but answered is \" + got); }\n"
            + "}\n"
            + "public static void main(String[] args) {\n");
        int shown = 0;
        for (String line : m.group(1).split("\n")) {
            program.append(line).append('\n');
            Matcher answer = SHOWN.matcher(line);
            if (answer.matches()) {
                shown++;
                program.append("due(\"" + line.replace("\"", "'") + "\", " + answer.group(1) + ", "
                    + answer.group(2) + ");\n");
            }
            is(answer.matches() || !line.contains("//"), "no answer can be read in: " + line);
        }
        program.append("if (wrong != 0) { System.exit(1); }\n}\n}\n");
        is(shown > 20, "only " + shown + " answers are shown");
        Files.writeString(folder.resolve("Shown.java"), program);
        is(ends("javac -d " + folder + " " + CLASS + " " + folder.resolve("Shown.java")) == 0, "the example compiles");
        is(ends("java -cp " + folder + " Shown") == 0, "the example answers as shown");
    }

    /** Each test of the project has its row, and no other. */
    private static void table(String text) throws IOException {
        Set<String> rows = new TreeSet<>();
        Matcher m = ROW.matcher(text);
        while (m.find()) {
            is(rows.add(m.group(1)), m.group(1) + " has two rows");
        }
        Set<String> tests;
        try (Stream<Path> files = Files.list(TESTS)) {
            tests = files.map(file -> file.getFileName().toString()).filter(name -> name.endsWith("Test.java"))
                .map(name -> name.replace(".java", "")).collect(Collectors.toCollection(TreeSet::new));
        }
        is(rows.equals(tests), "its rows are " + rows + ", the tests are " + tests);
    }

    /** The first command is the script, which is running now; the others are run, but for the folder they write to. */
    private static void commands(String text, Path folder) throws Exception {
        List<String> commands = new ArrayList<>();
        Matcher m = COMMAND.matcher(text.substring(text.indexOf("## Tests")));
        while (m.find()) {
            commands.add(m.group(1));
        }
        is(commands.size() == 3 && commands.get(0).equals(RUN.toString()), "its commands are " + commands);
        is(Files.isExecutable(RUN), RUN + " can be run");
        for (int i = 1; i < commands.size(); i++) {
            String command = commands.get(i).replace("/tmp/out", folder.resolve("out").toString());
            is(!command.equals(commands.get(i)), "no folder /tmp/out in: " + commands.get(i));
            is(ends(command) == 0, "ends not well: " + command);
        }
    }

    /** The code that a command of words with blanks between them ends with. */
    private static int ends(String command) throws IOException, InterruptedException {
        return new ProcessBuilder(command.split(" +")).redirectErrorStream(true)
            .redirectOutput(ProcessBuilder.Redirect.INHERIT).redirectInput(new File("/dev/null")).start().waitFor();
    }

    private static void remove(Path folder) throws IOException {
        try (Stream<Path> files = Files.walk(folder)) {
            for (Path file : files.sorted(Comparator.reverseOrder()).toList()) {
                Files.delete(file);
            }
        }
    }
}
