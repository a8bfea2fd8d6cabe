import java.io.IOException;
import java.lang.reflect.Field;
import java.lang.reflect.Method;
import java.lang.reflect.Modifier;
import java.nio.file.Files;
import java.nio.file.Path;
import java.util.List;
import java.util.regex.Matcher;
import java.util.regex.Pattern;

/** What README.md shows: its examples make a program whose calls must have the answers behind them. */
public final class ReadmeTest {
    private static final Path README = Path.of("README.md");
    private static final Pattern ANSWERED = Pattern.compile("(?:int (\\w+) = )?(\\w.*);\\s+// (.+?)(?:: .*)?");
    private static final Pattern NEEDS_ANSWER = Pattern.compile("(?:int \\w+ = )?(?:x\\.|output\\().*");
    private static final Pattern TEST_NAME = Pattern.compile("\\w+Test\\b");
    private static final String HEAD = "final class ReadmeExamples {\n"
            + "static int wrong = 0;\n"
            + "static void due(String call, String got, String want) {\n"
            + "if (!got.equals(want)) { wrong++; System.out.println(call + \" answers \" + got + \", not \" + want); }\n"
            + "}\n"
            + "static void due(String call, int got, int want) { due(call, \"\" + got, \"\" + want); }\n"
            + "static void due(String call, boolean got, boolean want) { due(call, \"\" + got, \"\" + want); }\n";

    private final Trial t = new Trial("README.md");
    private final StringBuilder methods = new StringBuilder();
    private final StringBuilder statements = new StringBuilder();

    public static void main(String[] args) throws IOException, InterruptedException {
        ReadmeTest test = new ReadmeTest();
        List<String> lines = Files.readAllLines(README);
        test.gather(lines);
        test.showsTheWholeFace();
        test.namesTestsThatThereAre(String.join("\n", lines));
        test.runs("ReadmeExamples", test.program());
        test.runs("ReadmeCounted", test.countedProgram());
        Trial.end();
    }

    private void gather(List<String> lines) {
        boolean inside = false;
        boolean ofMethods = false;
        for (int n = 0; n < lines.size(); n++) {
            String line = lines.get(n);
            if (line.startsWith("```")) {
                inside = line.equals("```java");
                ofMethods = inside && lines.get(n + 1).startsWith("static ");
            } else if (ofMethods) {
                methods.append(line).append('\n');
            } else if (inside) {
                statements.append(statement(n + 1, line)).append('\n');
            }
        }
    }

    /** The line as it stands or, with an answer behind it, as a check of that. */
    private String statement(int number, String line) {
        Matcher answered = ANSWERED.matcher(line);
        if (!answered.matches()) {
            t.due("line " + number + " has a call without an answer", NEEDS_ANSWER.matcher(line).matches(), false);
            return line;
        }
        String variable = answered.group(1);
        String call = answered.group(2);
        String due = "due(" + quoted("line " + number + ": " + call) + ", "
                + (variable == null ? call : variable) + ", " + answered.group(3) + ");";
        return variable == null ? due : "int " + variable + " = " + call + "; " + due;
    }

    private static String quoted(String text) {
        return '"' + text.replace("\\", "\\\\").replace("\"", "\\\"") + '"';
    }

    private void showsTheWholeFace() {
        for (Method method : PagedValues.class.getDeclaredMethods()) {
            if (Modifier.isPublic(method.getModifiers())) {
                t.due("shows " + method.getName(), statements.indexOf(", x." + method.getName() + "(") >= 0
                        || statements.indexOf("= x." + method.getName() + "(") >= 0, true);
            }
        }
        for (Field field : PagedValues.class.getDeclaredFields()) {
            if (Modifier.isPublic(field.getModifiers())) {
                t.due("shows " + field.getName(), statements.indexOf(", PagedValues." + field.getName() + ");") >= 0, true);
            }
        }
    }

    private void namesTestsThatThereAre(String readme) {
        Matcher names = TEST_NAME.matcher(readme);
        while (names.find()) {
            Path file = Path.of("src", "test", "java", names.group() + ".java");
            t.due("there is " + file, Files.exists(file), true);
        }
    }

    private String program() {
        return HEAD + methods + "public static void main(String[] args) {\n" + statements
                + "System.exit(wrong == 0 ? 0 : 1);\n}\n}\n";
    }

    /** The same with objects that allow no more calls than the document does. */
    private String countedProgram() {
        return program().replace("PagedValues x", "Counted x").replace("new PagedValues()", "new Counted()")
                .replace("class ReadmeExamples", "class ReadmeCounted");
    }

    private void runs(String name, String program) throws IOException, InterruptedException {
        Path directory = Files.createTempDirectory("readme");
        Path source = directory.resolve(name + ".java");
        String classes = System.getProperty("java.class.path");
        Files.writeString(source, program);
        t.due("exit code of javac for " + name, exit("javac", "-cp", classes, "-d", directory.toString(), source.toString()), 0);
        t.due("exit code of " + name, exit("java", "-cp", classes + ":" + directory, name), 0);
        remove(directory);
    }

    private static int exit(String... command) throws IOException, InterruptedException {
        return new ProcessBuilder(command).inheritIO().start().waitFor();
    }

    private static void remove(Path directory) throws IOException {
        for (java.io.File file : directory.toFile().listFiles()) {
            Files.delete(file.toPath());
        }
        Files.delete(directory);
    }
}
