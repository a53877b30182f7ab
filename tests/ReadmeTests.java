import java.io.IOException;
import java.lang.reflect.Method;
import java.lang.reflect.Modifier;
import java.nio.file.Files;
import java.nio.file.Path;
import java.util.ArrayList;
import java.util.List;
import java.util.regex.Matcher;
import java.util.regex.Pattern;

/** README.md: its program does what it says, and it names each call and each test. */
public final class ReadmeTests {
    private static final Check check = new Check();
    private static final Pattern PROGRAM = Pattern.compile("(?s)```java\n(public class (\\w+) .*?)```");
    private static final Pattern TOLD = Pattern.compile("(?m)^ *(land\\.\\w+\\(.*?\\)); +// (-?\\d+|true|false): .*$");

    public static void main(String[] args) throws Exception {
        String page = Files.readString(Path.of("README.md"));
        program(page);
        calls(page);
        tests(page);
        check.close();
    }

    private static void program(String page) throws Exception {
        check.about("the program of README.md");
        Matcher found = PROGRAM.matcher(page);
        if (!found.find()) {
            check.fault("there is none");
            return;
        }
        String code = found.group(1);
        List<String> calls = new ArrayList<>();
        List<String> due = new ArrayList<>();
        Matcher told = TOLD.matcher(code);
        while (told.find()) {
            calls.add(told.group(1));
            due.add(told.group(2));
        }
        check.due("answers it tells", calls.size() > 20, true);
        check.due("each line that tells an answer is read", calls.size(),
            Pattern.compile("; +// ").matcher(code).results().count());
        List<String> got = printed(found.group(2), told.replaceAll("System.out.println($1);"));
        check.due("lines printed", got.size(), calls.size());
        for (int k = 0; k < Math.min(got.size(), calls.size()); k++) {
            check.due(calls.get(k) + " answered " + got.get(k) + ", README.md says " + due.get(k),
                got.get(k).equals(due.get(k)), true);
        }
    }

    private static List<String> printed(String name, String code) throws Exception {
        Path made = Files.createTempDirectory("readme");
        String source = Files.writeString(made.resolve(name + ".java"), code).toString();
        Path lines = made.resolve("printed");
        int failed = run(lines, "javac", "-d", made.toString(), source, "src/main/java/NoHedgeTwice.java");
        check.due("javac of it", failed, 0);
        check.due("java of it", run(lines, "java", "-cp", made.toString(), name), 0);
        List<String> all = Files.readAllLines(lines);
        delete(made);
        return all;
    }

    private static int run(Path lines, String... command) throws Exception {
        return new ProcessBuilder(command).redirectErrorStream(true).redirectOutput(lines.toFile()).start().waitFor();
    }

    private static void delete(Path made) throws IOException {
        try (var files = Files.list(made)) {
            for (Path file : files.toList()) {
                Files.delete(file);
            }
        }
        Files.delete(made);
    }

    private static void calls(String page) {
        check.about("README.md names each call");
        for (Method made : NoHedgeTwice.class.getDeclaredMethods()) {
            if (Modifier.isPublic(made.getModifiers())) {
                Matcher named = Pattern.compile("`" + made.getName() + "\\(([^)]*)\\)`").matcher(page);
                boolean found = named.find();
                check.due(made.getName(), found, true);
                String with = found ? named.group(1) : "";
                check.due(made.getName() + " with as many arguments",
                    with.isEmpty() ? 0 : with.split(",").length, made.getParameterCount());
            }
        }
    }

    private static void tests(String page) throws IOException {
        check.about("README.md names each test");
        check.due(".ci/run", page.contains("\n    .ci/run\n") && Files.isExecutable(Path.of(".ci/run")), true);
        try (var files = Files.list(Path.of("tests"))) {
            for (Path file : files.filter(f -> f.toString().endsWith(".java")).toList()) {
                String name = file.getFileName().toString().replace(".java", "");
                check.due(name, page.contains("`" + name + "`"), true);
            }
        }
    }
}
