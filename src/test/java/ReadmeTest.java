import java.io.IOException;
import java.lang.reflect.Method;
import java.lang.reflect.Modifier;
import java.net.URL;
import java.net.URLClassLoader;
import java.nio.file.Files;
import java.nio.file.Path;
import java.util.ArrayList;
import java.util.Comparator;
import java.util.List;
import java.util.function.ObjIntConsumer;
import java.util.regex.Matcher;
import java.util.regex.Pattern;
import java.util.stream.Stream;
import javax.tools.JavaCompiler;
import javax.tools.ToolProvider;

/** README.md says what is so: its example is Java as it stands there, and each answer that it names is the class's. */
public final class ReadmeTest {
    private static final String ANSWER = "-?\\d+|NONE|UNKNOWN|OUTSIDE|NOT|FULL";
    private static final Pattern CALL = Pattern.compile("\\s*(duty\\.(\\w+)\\(.*\\));\\s*// (" + ANSWER + ")(:.*)?");
    private static final Pattern FAULT = Pattern.compile("\\| (\\d) \\| .* \\| `([^`]*)` \\| (-\\d+) \\| (\\d+) \\|");
    private static final Pattern CONSTANT = Pattern.compile("\\| `([A-Z]+)` \\| (-\\d+) \\| .*");
    private final Checks checks = new Checks();
    private final Path root = Path.of(System.getProperty("project", "."));
    private final List<String> lines;
    private final List<String> example = new ArrayList<>();

    private ReadmeTest() throws IOException {
        lines = Files.readAllLines(root.resolve("README.md"));
        boolean inside = false;
        for (String line : lines) {
            if (line.startsWith("```")) {
                inside = line.equals("```java");
            } else if (inside) {
                example.add(line);
            }
        }
    }

    public static void main(String[] args) throws Exception {
        ReadmeTest test = new ReadmeTest();
        test.exampleIsAnswered();
        test.exampleHasEveryCall();
        test.faultsAreSuch();
        test.refusalsAreSuch();
        test.everyTestIsNamed();
        test.checks.end();
    }

    private void exampleIsAnswered() throws Exception {
        Path made = Files.createTempDirectory("readme");
        try {
            Path source = made.resolve("ReadmeExample.java");
            Files.writeString(source, String.join("\n", asProgram()));
            JavaCompiler compiler = ToolProvider.getSystemJavaCompiler();
            checks.holds("there is a compiler", compiler != null);
            if (compiler == null) {
                return;
            }
            int code = compiler.run(null, System.out, System.out, "-proc:none", "-cp", System.getProperty("java.class.path"), "-d", made.toString(),
                    source.toString());
            checks.due("the example compiles", code, 0);
            if (code == 0) {
                runFrom(made);
            }
        } finally {
            delete(made);
        }
    }

    /** Each call with an answer behind it hands that over with its line's number; all else stays as it stands. */
    private List<String> asProgram() {
        List<String> program = new ArrayList<>();
        program.add("public final class ReadmeExample {");
        program.add("public static void run(java.util.function.ObjIntConsumer<Integer> answer) {");
        for (int k = 0; k < example.size(); k++) {
            Matcher call = CALL.matcher(example.get(k));
            program.add(call.matches() ? "answer.accept(" + k + ", " + call.group(1) + ");" : example.get(k));
        }
        program.add("}");
        program.add("}");
        return program;
    }

    private void runFrom(Path made) throws Exception {
        List<Integer> answered = new ArrayList<>();
        ObjIntConsumer<Integer> answer = (k, got) -> {
            Matcher call = CALL.matcher(example.get(k));
            checks.holds("line " + k + " of the example names an answer", call.matches());
            checks.due("README.md: " + call.group(1), got, number(call.group(3)));
            answered.add(k);
        };
        try (URLClassLoader loader = new URLClassLoader(new URL[] {made.toUri().toURL()}, ReadmeTest.class.getClassLoader())) {
            loader.loadClass("ReadmeExample").getMethod("run", ObjIntConsumer.class).invoke(null, answer);
        }
        for (int k = 0; k < example.size(); k++) {
            boolean told = example.get(k).startsWith("duty.") || example.get(k).contains("); //");
            checks.holds("the answer of '" + example.get(k) + "' was looked at", !told || answered.contains(k));
        }
    }

    private static int number(String answer) {
        switch (answer) {
            case "NONE": return Checks.NONE;
            case "UNKNOWN": return Checks.UNKNOWN;
            case "OUTSIDE": return Checks.OUTSIDE;
            case "NOT": return Checks.NOT;
            case "FULL": return Checks.FULL;
            default: return Integer.parseInt(answer);
        }
    }

    private static void delete(Path made) throws IOException {
        try (Stream<Path> all = Files.walk(made)) {
            for (Path path : all.sorted(Comparator.reverseOrder()).toList()) {
                Files.delete(path);
            }
        }
    }

    private void exampleHasEveryCall() {
        String whole = String.join("\n", example);
        for (Method method : MindDuty.class.getDeclaredMethods()) {
            boolean open = Modifier.isPublic(method.getModifiers());
            checks.holds("the example has " + method.getName(), !open || whole.contains("duty." + method.getName() + "("));
        }
    }

    private void faultsAreSuch() {
        boolean[] seen = new boolean[5];
        for (String line : lines) {
            Matcher row = FAULT.matcher(line);
            if (row.matches()) {
                MindDuty duty = new MindDuty();
                String text = row.group(2);
                checks.due("README.md: thePass() of " + text, Checks.read(duty, text), Integer.parseInt(row.group(3)));
                checks.due("README.md: fault() of " + text, duty.fault(), Integer.parseInt(row.group(4)));
                int kind = Integer.parseInt(row.group(1));
                checks.due("README.md: -10 less the fault's number", Integer.parseInt(row.group(3)), -10 - kind);
                seen[kind] = true;
            }
        }
        for (int kind = 1; kind <= 4; kind++) {
            checks.holds("README.md has a text of fault " + kind, seen[kind]);
        }
    }

    private void refusalsAreSuch() {
        int found = 0;
        for (String line : lines) {
            Matcher row = CONSTANT.matcher(line);
            if (row.matches()) {
                checks.due("README.md: " + row.group(1), number(row.group(1)), Integer.parseInt(row.group(2)));
                found++;
            }
        }
        checks.due("README.md names every constant", found, 5);
    }

    private void everyTestIsNamed() throws IOException {
        String whole = String.join("\n", lines);
        checks.holds("README.md names the command", whole.contains("\n    .ci/run\n"));
        checks.holds("the command can be run", Files.isExecutable(root.resolve(".ci/run")));
        try (Stream<Path> files = Files.list(root.resolve("src/test/java"))) {
            for (Path file : files.sorted().toList()) {
                String name = file.getFileName().toString().replace(".java", "");
                checks.holds("README.md names " + name, !name.endsWith("Test") || whole.contains("`" + name + "`"));
            }
        }
        Matcher named = Pattern.compile("`(\\w+Test)`").matcher(whole);
        while (named.find()) {
            checks.holds(named.group(1) + " is there", Files.exists(root.resolve("src/test/java/" + named.group(1) + ".java")));
        }
    }
}
