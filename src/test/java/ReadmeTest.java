import java.io.IOException;
import java.lang.reflect.Method;
import java.lang.reflect.Modifier;
import java.net.URL;
import java.net.URLClassLoader;
import java.nio.file.Files;
import java.nio.file.Path;
import java.nio.file.Paths;
import java.util.ArrayList;
import java.util.Comparator;
import java.util.List;
import java.util.Set;
import java.util.TreeSet;
import java.util.regex.Matcher;
import java.util.regex.Pattern;
import java.util.stream.Stream;
import javax.tools.ToolProvider;

/** README.md: its example compiles and answers as it says; its tables name every call, and the refusals of each. */
public final class ReadmeTest {
    private static final Checks CHECKS = new Checks();

    private static final Pattern EXAMPLE = Pattern.compile("(?s)```java\n(.*?)```");
    private static final Pattern ASKED = Pattern.compile("(x\\.\\w+\\(.*\\)); +// (-?\\d+|[A-Z]+)(?:: .*)?");
    private static final Pattern CALL_ROW = Pattern.compile("\\| `(\\w+)\\((.*?)\\)` \\| .* \\| ?([A-Z, ]*)\\|");
    private static final Pattern REFUSAL_ROW = Pattern.compile("\\| `([A-Z]+)` \\| (-\\d) \\| .*");

    private static final String[] REFUSALS = {"UNKNOWN", "OUTSIDE", "NOT", "FULL"};
    private static final int[] NUMBERS = {-2, -1, 0, 1, 2, 7, 31, 256};

    /** In one or another of these yards each call meets every refusal that the document names for it. */
    private static final List<List<String>> YARDS = List.of(
        List.of(),
        List.of("tell layer 3"),
        List.of("tell place 1 3 0;place 2 2 0;layer 3;china 1", "6 times seen(0, 1, 0)", "160 times write(32)"),
        List.of("tell place 1 3 0;layer 3", "999 times day()"));

    public static void main(String[] args) throws IOException, ReflectiveOperationException {
        String readme = Files.readString(Paths.get("README.md"));
        example(readme);
        calls(readme);
        refusalNumbers(readme);
        CHECKS.end("ReadmeTest");
    }

    private static void example(String readme) throws IOException, ReflectiveOperationException {
        Matcher block = EXAMPLE.matcher(readme);
        CHECKS.due("README.md has an example", block.find(), true);
        StringBuilder body = new StringBuilder();
        List<String> asked = new ArrayList<>();
        List<Integer> wants = new ArrayList<>();
        for (String line : block.group(1).split("\n")) {
            Matcher call = ASKED.matcher(line);
            if (call.matches()) {
                asked.add(call.group(1));
                wants.add(Run.number(call.group(2)));
                body.append("answers.add(").append(call.group(1)).append(");\n");
            } else {
                CHECKS.due("an answer stands behind " + line, line.startsWith("x."), false);
                body.append(line).append('\n');
            }
        }
        List<Integer> answers = answersOf(body.toString());
        CHECKS.due("calls of the example", answers.size(), wants.size());
        for (int i = 0; i < asked.size(); i++) {
            CHECKS.due("the example's " + asked.get(i), answers.get(i), wants.get(i));
        }
    }

    /** The example is compiled as it stands, so that a reader can take it over. */
    private static List<Integer> answersOf(String body) throws IOException, ReflectiveOperationException {
        Path out = Files.createTempDirectory("readme");
        try {
            Path source = out.resolve("ReadmeExample.java");
            Files.writeString(source, "public final class ReadmeExample {\n"
                + "public static void run(java.util.List<Integer> answers) {\n" + body + "}\n}\n");
            int code = ToolProvider.getSystemJavaCompiler().run(null, null, null, "-cp",
                System.getProperty("java.class.path"), "-d", out.toString(), source.toString());
            CHECKS.due("the example compiles", code, 0);
            List<Integer> answers = new ArrayList<>();
            try (URLClassLoader loader = new URLClassLoader(new URL[] {out.toUri().toURL()})) {
                loader.loadClass("ReadmeExample").getMethod("run", List.class).invoke(null, answers);
            }
            return answers;
        } finally {
            remove(out);
        }
    }

    private static void remove(Path folder) throws IOException {
        try (Stream<Path> all = Files.walk(folder)) {
            for (Path path : all.sorted(Comparator.reverseOrder()).toList()) {
                Files.delete(path);
            }
        }
    }

    private static void calls(String readme) {
        List<String> told = new ArrayList<>();
        Matcher row = CALL_ROW.matcher(readme);
        while (row.find()) {
            int numbers = row.group(2).isEmpty() ? 0 : row.group(2).split(", ").length;
            told.add(row.group(1) + " of " + numbers);
            Set<String> refusals = new TreeSet<>(List.of(row.group(3).trim().split(", ")));
            refusals.remove("");
            Set<String> met = refusalsMet(row.group(1), numbers);
            CHECKS.due(row.group(1) + " is refused by " + met + ", told is " + refusals, refusals.equals(met), true);
        }
        Set<String> face = new TreeSet<>();
        for (Method m : HenOracle.class.getDeclaredMethods()) {
            if (Modifier.isPublic(m.getModifiers())) {
                face.add(m.getName() + " of " + m.getParameterCount());
            }
        }
        CHECKS.due("the calls told: " + told, new TreeSet<>(told).equals(face), true);
        CHECKS.due("each of them once", told.size(), face.size());
    }

    private static Set<String> refusalsMet(String name, int numbers) {
        Set<String> met = new TreeSet<>();
        for (List<String> yard : YARDS) {
            mix(Rows.played(yard), name, new ArrayList<>(), numbers, met);
        }
        return met;
    }

    private static void mix(Run run, String name, List<Integer> chosen, int numbers, Set<String> met) {
        if (chosen.size() == numbers) {
            int answer = run.call(name + chosen.toString().replace('[', '(').replace(']', ')'));
            for (String refusal : REFUSALS) {
                if (answer == Run.number(refusal)) {
                    met.add(refusal);
                }
            }
            return;
        }
        for (int number : NUMBERS) {
            chosen.add(number);
            mix(run, name, chosen, numbers, met);
            chosen.remove(chosen.size() - 1);
        }
    }

    private static void refusalNumbers(String readme) {
        List<String> told = new ArrayList<>();
        Matcher row = REFUSAL_ROW.matcher(readme);
        while (row.find()) {
            told.add(row.group(1));
            CHECKS.due(row.group(1) + " in README.md", Integer.parseInt(row.group(2)), Run.number(row.group(1)));
        }
        CHECKS.due("the refusals told in their order: " + told, told.equals(List.of(REFUSALS)), true);
    }
}
