import java.io.IOException;
import java.lang.reflect.Constructor;
import java.lang.reflect.Field;
import java.lang.reflect.Method;
import java.lang.reflect.Modifier;
import java.nio.file.Files;
import java.nio.file.Path;
import java.util.ArrayList;
import java.util.HashSet;
import java.util.List;
import java.util.Set;
import java.util.TreeSet;
import java.util.regex.Matcher;
import java.util.regex.Pattern;

/** The face of the document, and those rules of LANGUAGE.md that can be seen from the text and the class. */
public final class LanguageTests {
    private static final Check check = new Check();
    private static final Path SOURCE = Path.of("src/main/java/NoHedgeTwice.java");
    private static final Path DOCUMENT = Path.of("../shared/DOC.md");

    public static void main(String[] args) throws IOException {
        String code = withoutComments(Files.readString(SOURCE));
        face();
        names();
        words(code);
        sizes(code);
        fields();
        check.close();
    }

    private static void holds(String what, boolean so) {
        check.due(what, so, true);
    }

    private static String withoutComments(String text) {
        return text.replaceAll("(?s)/\\*.*?\\*/", "").replaceAll("//[^\n]*", "").replaceAll("\"[^\"]*\"", "\"\"");
    }

    private static void face() throws IOException {
        check.about("rule 1, the face");
        Set<String> want = new TreeSet<>();
        Matcher m = Pattern.compile("(?m)^    public (?!static)(.*?)\\((.*?)\\)(.*);$").matcher(Files.readString(DOCUMENT));
        while (m.find()) {
            want.add(m.group(1) + "(" + m.group(2).replaceAll(" \\w+(?=,|$)", "") + ")" + m.group(3));
        }
        holds("the document has a face", want.size() > 40);
        Set<String> got = new TreeSet<>();
        for (Constructor<?> c : NoHedgeTwice.class.getDeclaredConstructors()) {
            got.add("NoHedgeTwice(" + namesOf(c.getParameterTypes()) + ")" + thrown(c.getExceptionTypes()));
            holds("constructor is public", Modifier.isPublic(c.getModifiers()));
        }
        for (Method made : NoHedgeTwice.class.getDeclaredMethods()) {
            if (Modifier.isPublic(made.getModifiers())) {
                got.add(made.getReturnType().getSimpleName() + " " + made.getName() + "("
                    + namesOf(made.getParameterTypes()) + ")" + thrown(made.getExceptionTypes()));
            } else {
                holds(made.getName() + " is private", Modifier.isPrivate(made.getModifiers()));
            }
        }
        holds("the face is the document's: " + want + " / " + got, want.equals(got));
        holds("the class is final", Modifier.isFinal(NoHedgeTwice.class.getModifiers()));
        check.due("NONE", NoHedgeTwice.NONE, -1);
    }

    private static String namesOf(Class<?>[] types) {
        List<String> names = new ArrayList<>();
        for (Class<?> type : types) {
            names.add(type.getSimpleName());
        }
        return String.join(", ", names);
    }

    private static String thrown(Class<?>[] types) {
        return types.length == 0 ? "" : " throws " + namesOf(types);
    }

    private static void names() {
        check.about("rule 1, names");
        Set<String> open = new HashSet<>();
        for (Method made : NoHedgeTwice.class.getDeclaredMethods()) {
            if (Modifier.isPublic(made.getModifiers())) {
                open.add(made.getName());
            }
        }
        List<Class<?>> all = new ArrayList<>(List.of(NoHedgeTwice.class.getDeclaredClasses()));
        all.add(NoHedgeTwice.class);
        for (Class<?> type : all) {
            for (Method made : type.getDeclaredMethods()) {
                boolean shown = type == NoHedgeTwice.class && Modifier.isPublic(made.getModifiers());
                holds(type.getSimpleName() + "." + made.getName() + " bears no public name",
                    shown || !open.contains(made.getName()));
                holds(made + " takes at most seven", made.getParameterCount() <= 7);
            }
            holds(type + " is static or the class itself",
                type == NoHedgeTwice.class || Modifier.isStatic(type.getModifiers()));
        }
    }

    private static void words(String code) {
        check.about("rules 2 to 6, 10, 12");
        String[] banned = {"->", "::", "\\bfinally\\b", "\\bsynchronized\\b", "\\bassert\\b", "\\bcatch\\b", "\\btry\\b",
            "static \\{", "\\bpackage\\b", "\\bpublic class\\b", "\\bprotected\\b", "\\bdouble\\b", "\\bfloat\\b",
            "Exact\\b", "\\bSystem\\b", "\\bThread\\b", "\\bhashCode\\b", "\\bequals\\b", "\\btoString\\b", "@Override",
            "\\bString\\b", "\\bnull\\b"};
        for (String word : banned) {
            holds("no " + word, !Pattern.compile(word).matcher(code).find());
        }
        Matcher imports = Pattern.compile("(?m)^import (.*);$").matcher(code);
        while (imports.find()) {
            check.due("import " + imports.group(1), imports.group(1).equals("java.util.NoSuchElementException"), true);
        }
        Matcher library = Pattern.compile("\\b(Integer|Long|Math|Arrays)\\.(\\w+)").matcher(code);
        while (library.find()) {
            holds(library.group() + " is listed",
                List.of("Math.max", "Math.min", "Math.abs", "Integer.bitCount").contains(library.group()));
        }
        Matcher made = Pattern.compile("(?m)^( *)(.*\\bnew .*)$").matcher(code);
        while (made.find()) {
            String line = made.group(2);
            boolean kept = line.startsWith("private final") || line.startsWith("final")
                || line.startsWith("throw new NoSuchElementException(\"\")")
                || line.equals("tours[i] = new Tour();") || line.equals("kept[i] = new Spot();")
                || line.equals("fours = new long[places / 4 + 1];");
            holds("made once: " + line, kept);
        }
    }

    private static void sizes(String code) {
        check.about("rule 11");
        check.due("classes, at most 12", Pattern.compile("\\bclass \\w+ \\{").matcher(code).results().count() <= 12, true);
        String[] lines = code.split("\n", -1);
        for (int k = 0; k < lines.length; k++) {
            Matcher head = Pattern.compile("^( {4}| {8})(?!.*\\bclass\\b)\\S.*\\) *(throws \\w+ )?\\{$").matcher(lines[k]);
            if (head.find()) {
                int end = k;
                while (end < lines.length && !lines[end].equals(head.group(1) + "}")) {
                    end++;
                }
                holds("short: " + lines[k].trim(), end - k <= 60);
            }
        }
        for (String line : lines) {
            holds("line of at most 120 signs: " + line, line.length() <= 120);
        }
    }

    private static void fields() {
        check.about("rules 5, 11");
        List<Class<?>> all = new ArrayList<>(List.of(NoHedgeTwice.class.getDeclaredClasses()));
        all.add(NoHedgeTwice.class);
        for (Class<?> type : all) {
            int own = 0;
            for (Field field : type.getDeclaredFields()) {
                boolean fixed = Modifier.isStatic(field.getModifiers());
                own += fixed ? 0 : 1;
                holds(field + " is final", !fixed || Modifier.isFinal(field.getModifiers()));
                holds(field + " is private, or NONE", type != NoHedgeTwice.class
                    || Modifier.isPrivate(field.getModifiers()) || field.getName().equals("NONE"));
            }
            holds(type + " has at most 20 fields", own <= 20);
        }
    }
}
