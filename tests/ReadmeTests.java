import java.io.IOException;
import java.lang.reflect.Method;
import java.lang.reflect.Modifier;
import java.net.URL;
import java.net.URLClassLoader;
import java.nio.file.Files;
import java.nio.file.Path;
import java.util.ArrayList;
import java.util.List;
import java.util.Scanner;
import java.util.regex.Matcher;
import java.util.regex.Pattern;
import javax.tools.ToolProvider;

/** README.md: its program does what it says, and it names each call. */
public final class ReadmeTests {
    private static final Check check = new Check();
    private static final Pattern PROGRAM = Pattern.compile("(?s)```java\n(public class (\\w+) .*?)```");
    private static final Pattern TOLD = Pattern.compile("(?m)^ *(land\\.\\w+\\(.*?\\)); +// (-?\\d+|true|false): .*$");

    public static void main(String[] args) throws Exception {
        String page = Files.readString(Path.of("README.md"));
        program(page);
        calls(page);
        tests(page);
        check.close();
    }

    private static void program(String page) throws Exception {
        check.about("the program of README.md");
        Matcher found = PROGRAM.matcher(page);
        check.due("there is a program", found.find(), true);
        String code = found.group(1);
        List<String> calls = new ArrayList<>();
        List<String> due = new ArrayList<>();
        Matcher told = TOLD.matcher(code);
        while (told.find()) {
            calls.add(told.group(1));
            due.add(told.group(2));
        }
        check.due("it tells what calls answer", calls.size() > 20, true);
        check.due("each line with an answer was read", told(code), calls.size());
        List<String> got = answersOf(found.group(2), told.replaceAll("System.getProperties().merge(\"readme\", "
            + "$1 + \"\\\\n\", (a, b) -> a.toString() + b);"));
        for (int k = 0; k < calls.size(); k++) {
            String answer = k < got.size() ? got.get(k) : "nothing";
            if (!answer.equals(due.get(k))) {
                check.fault(calls.get(k) + " answered " + answer + ", README.md says " + due.get(k));
            }
        }
    }

    private static int told(String code) {
        return (int) Pattern.compile("(?m); +// ").matcher(code).results().count();
    }

    /** Each call's answer is put behind a property, as a line. */
    private static List<String> answersOf(String name, String code) throws Exception {
        Path made = Files.createTempDirectory("readme");
        Path source = Files.writeString(made.resolve(name + ".java"), code);
        int failed = ToolProvider.getSystemJavaCompiler().run(null, null, null, "-d", made.toString(),
            source.toString(), "src/main/java/NoHedgeTwice.java");
        check.due("javac", failed, 0);
        System.setProperty("readme", "");
        if (failed == 0) {
            try (URLClassLoader loader = new URLClassLoader(new URL[] {made.toUri().toURL()},
                    ClassLoader.getPlatformClassLoader())) {
                loader.loadClass(name).getMethod("main", String[].class).invoke(null, (Object) new String[0]);
            }
        }
        delete(made);
        List<String> lines = new ArrayList<>();
        try (Scanner all = new Scanner(System.getProperty("readme"))) {
            while (all.hasNextLine()) {
                lines.add(all.nextLine());
            }
        }
        return lines;
    }

    private static void delete(Path made) throws IOException {
        try (var files = Files.list(made)) {
            for (Path file : files.toList()) {
                Files.delete(file);
            }
        }
        Files.delete(made);
    }

    private static void calls(String page) {
        check.about("README.md names each call");
        for (Method made : NoHedgeTwice.class.getDeclaredMethods()) {
            if (Modifier.isPublic(made.getModifiers())) {
                Matcher named = Pattern.compile("`" + made.getName() + "\\(([^)]*)\\)`").matcher(page);
                boolean found = named.find();
                check.due(made.getName(), found, true);
                String with = found ? named.group(1) : "";
                check.due(made.getName() + " with as many arguments",
                    with.isEmpty() ? 0 : with.split(",").length, made.getParameterCount());
            }
        }
    }

    private static void tests(String page) throws IOException {
        check.about("README.md names each test");
        check.due(".ci/run", page.contains("\n    .ci/run\n") && Files.isExecutable(Path.of(".ci/run")), true);
        try (var files = Files.list(Path.of("tests"))) {
            for (Path file : files.filter(f -> f.toString().endsWith(".java")).toList()) {
                String name = file.getFileName().toString().replace(".java", "");
                check.due(name, page.contains("`" + name + "`"), true);
            }
        }
    }
}
