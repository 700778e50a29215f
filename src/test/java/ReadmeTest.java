import java.io.IOException;
import java.lang.reflect.Method;
import java.lang.reflect.Modifier;
import java.nio.file.Files;
import java.nio.file.Path;
import java.util.ArrayList;
import java.util.Comparator;
import java.util.List;
import java.util.regex.Matcher;
import java.util.regex.Pattern;
import java.util.stream.Stream;

/** What README.md shows: its program, compiled and run by its own commands, answers what stands behind each call. */
public final class ReadmeTest {
    private static final Pattern SHOWN = Pattern.compile("println\\((.*)\\); +// (-?[0-9]+)\\b");

    public static void main(String[] args) throws IOException, InterruptedException {
        String readme = Files.readString(Path.of("README.md"));
        example(block(readme, "java", "class Example"), block(readme, "sh", "Example.java"));
        callsAreNamed(readme);
        testsAreNamed(readme);
        Checks.due("it says how all tests are run", block(readme, "sh", ".ci/run").isEmpty() ? 1 : 0, 0);
        Checks.finish();
    }

    /** The first block of that language that holds a text. */
    private static String block(String readme, String language, String held) {
        Matcher m = Pattern.compile("```" + language + "\n(.*?)```", Pattern.DOTALL).matcher(readme);
        while (m.find()) {
            if (m.group(1).contains(held)) {
                return m.group(1);
            }
        }
        Checks.due("no " + language + " block with " + held, 1, 0);
        return "";
    }

    private static void example(String program, String commands) throws IOException, InterruptedException {
        Path root = Files.createTempDirectory("readme");
        try {
            Path source = Path.of("src/main/java/BargeTalks.java");
            Files.createDirectories(root.resolve(source).getParent());
            Files.copy(source, root.resolve(source));
            Files.writeString(root.resolve("Example.java"), program);
            hold(program, run(root, commands));
        } finally {
            removeAll(root);
        }
    }

    private static List<String> run(Path root, String commands) throws IOException, InterruptedException {
        Path answers = root.resolve("answers");
        Process process = new ProcessBuilder("sh", "-e", "-c", commands).directory(root.toFile())
            .redirectError(ProcessBuilder.Redirect.INHERIT).redirectOutput(answers.toFile()).start();
        Checks.due("the commands of README.md", process.waitFor(), 0);
        return Files.readAllLines(answers);
    }

    private static void hold(String program, List<String> answers) {
        List<String> calls = new ArrayList<>();
        List<Long> due = new ArrayList<>();
        for (String line : program.split("\n")) {
            Matcher m = SHOWN.matcher(line);
            if (m.find()) {
                calls.add(m.group(1));
                due.add(Long.parseLong(m.group(2)));
            } else {
                Checks.due("no answer is told:" + line, line.contains("println") ? 1 : 0, 0);
            }
        }
        Checks.due("it shows calls", calls.isEmpty() ? 1 : 0, 0);
        Checks.due("how many answers are printed", answers.size(), calls.size());
        for (int i = 0; i < Math.min(calls.size(), answers.size()); i++) {
            Checks.due("README.md: " + calls.get(i), Long.parseLong(answers.get(i)), due.get(i));
        }
    }

    private static void callsAreNamed(String readme) {
        for (Method m : BargeTalks.class.getDeclaredMethods()) {
            if (Modifier.isPublic(m.getModifiers())) {
                Checks.due("README.md names " + m.getName(), readme.contains("`" + m.getName() + "`") ? 1 : 0, 1);
            }
        }
    }

    private static void testsAreNamed(String readme) throws IOException {
        try (Stream<Path> files = Files.list(Path.of("src/test/java"))) {
            for (Path file : files.filter(f -> f.toString().endsWith("Test.java")).toList()) {
                String name = file.getFileName().toString().replace(".java", "");
                Checks.due("README.md names " + name, readme.contains("| `" + name + "` |") ? 1 : 0, 1);
            }
        }
    }

    private static void removeAll(Path root) throws IOException {
        try (Stream<Path> all = Files.walk(root)) {
            for (Path p : all.sorted(Comparator.reverseOrder()).toList()) {
                Files.delete(p);
            }
        }
    }
}
