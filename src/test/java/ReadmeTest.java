import java.io.File;
import java.io.IOException;
import java.lang.reflect.Field;
import java.lang.reflect.Method;
import java.lang.reflect.Modifier;
import java.net.URL;
import java.net.URLClassLoader;
import java.nio.file.Files;
import java.nio.file.Path;
import java.util.ArrayList;
import java.util.Comparator;
import java.util.List;
import java.util.TreeSet;
import java.util.regex.Matcher;
import java.util.regex.Pattern;
import java.util.stream.Stream;
import javax.tools.ToolProvider;

/** README.md: its examples compile and answer what their comments say, for the whole face; its commands work. */
public final class ReadmeTest {
    private static final String NEW_OBJECT = "AccountMachine m = new AccountMachine();";
    private static final Pattern CALL = Pattern.compile("(m\\.(\\w+)\\(.*\\)); +// ([^:]+)(: .+)?");
    private static final Pattern CONSTANT = Pattern.compile("\\b[A-Z][A-Z_]+\\b");

    private static final TreeSet<String> methods = new TreeSet<>();
    private static final TreeSet<String> constants = new TreeSet<>();

    public static void main(String[] args) throws Exception {
        List<String> readme = Files.readAllLines(Path.of("README.md"));
        Path room = Files.createTempDirectory("readme");
        try {
            examples(blocks(readme, "java"), room);
            wholeFace();
            constantsTable(readme);
            commands(blocks(readme, "sh"), room);
        } finally {
            remove(room);
        }
        Bench.end();
    }

    /** The lines between fences of a kind, block by block. */
    private static List<List<String>> blocks(List<String> text, String kind) {
        List<List<String>> all = new ArrayList<>();
        List<String> open = null;
        for (String line : text) {
            if (open != null && line.equals("```")) {
                all.add(open);
                open = null;
            } else if (open != null) {
                open.add(line);
            } else if (line.equals("```" + kind)) {
                open = new ArrayList<>();
            }
        }
        Bench.part("README.md");
        Bench.due("there are blocks of " + kind, all.isEmpty(), false);
        Bench.due("the last block of " + kind + " is closed", open == null, true);
        return all;
    }

    private static void examples(List<List<String>> blocks, Path room) throws Exception {
        Bench.part("examples");
        StringBuilder source = new StringBuilder("public final class Examples {\n");
        source.append("    public static void run(java.util.List<Object[]> rows) {\n");
        for (List<String> block : blocks) {
            Bench.due("an example begins with a new object", block.get(0).equals(NEW_OBJECT), true);
            source.append("        {\n");
            for (String line : block) {
                source.append("            ").append(statement(line)).append('\n');
            }
            source.append("        }\n");
        }
        source.append("    }\n}\n");
        Path file = Files.writeString(room.resolve("Examples.java"), source);
        int failed = ToolProvider.getSystemJavaCompiler().run(null, null, null, "-d", room.toString(), "-cp",
                System.getProperty("java.class.path"), file.toString());
        Bench.due("javac of the examples", failed, 0);
        if (failed == 0) {
            compareAnswers(room);
        }
    }

    /** A line of an example as it is compiled: the call, with its answer and the one that the comment tells. */
    private static String statement(String line) {
        Matcher call = CALL.matcher(line);
        if (line.equals(NEW_OBJECT)) {
            return line;
        }
        if (!call.matches()) {
            Bench.due("'" + line + "' is a call with its answer", false, true);
            return "";
        }
        methods.add(call.group(2));
        Matcher named = CONSTANT.matcher(call.group(3));
        while (named.find()) {
            constants.add(named.group());
        }
        String due = named.reset().replaceAll("AccountMachine.$0");
        return "rows.add(new Object[] {\"" + call.group(1) + "\", " + call.group(1) + ", " + due + "});";
    }

    private static void compareAnswers(Path room) throws Exception {
        List<Object[]> rows = new ArrayList<>();
        try (URLClassLoader loader = new URLClassLoader(new URL[] {room.toUri().toURL()})) {
            loader.loadClass("Examples").getMethod("run", List.class).invoke(null, rows);
        }
        for (Object[] row : rows) {
            String got = String.valueOf(row[1]);
            String due = String.valueOf(row[2]);
            Bench.due(row[0] + " answered " + got + ", README.md says " + due + ": the same", got.equals(due), true);
        }
    }

    private static void wholeFace() {
        Bench.part("examples for the whole face");
        for (Method method : AccountMachine.class.getDeclaredMethods()) {
            if (Modifier.isPublic(method.getModifiers())) {
                Bench.due("an example of " + method.getName(), methods.contains(method.getName()), true);
            }
        }
        for (Field field : AccountMachine.class.getDeclaredFields()) {
            if (Modifier.isPublic(field.getModifiers())) {
                Bench.due("an example of " + field.getName(), constants.contains(field.getName()), true);
            }
        }
    }

    private static void constantsTable(List<String> readme) throws ReflectiveOperationException {
        Bench.part("the table of constants");
        Matcher row = Pattern.compile("\\| `([A-Z_]+)` \\| (\\d+) \\| .+ \\|").matcher("");
        int rows = 0;
        for (String line : readme) {
            if (row.reset(line).matches()) {
                rows++;
                int value = AccountMachine.class.getField(row.group(1)).getInt(null);
                Bench.due(row.group(1), Integer.parseInt(row.group(2)), value);
            }
        }
        Bench.due("its rows", rows, 14);
    }

    /** Runs the commands where all that they need is in reach, but what they write does not stay in the project. */
    private static void commands(List<List<String>> blocks, Path room) throws Exception {
        Bench.part("commands");
        Path project = Files.createDirectory(room.resolve("main"));
        Files.createSymbolicLink(project.resolve("src"), Path.of("src").toRealPath());
        Files.createSymbolicLink(room.resolve("shared"), Path.of("../shared").toRealPath());
        for (List<String> block : blocks) {
            if (block.equals(List.of(".ci/run"))) {
                // It is what runs this test, so running it from here would never end.
                Bench.due(".ci/run can be run", Files.isExecutable(Path.of(".ci/run")), true);
            } else {
                Bench.due(String.join("\n", block), exitOf(String.join("\n", block), project.toFile()), 0);
            }
        }
    }

    private static int exitOf(String script, File where) throws IOException, InterruptedException {
        ProcessBuilder builder = new ProcessBuilder("sh", "-e", "-c", script);
        builder.directory(where).redirectErrorStream(true).redirectOutput(new File(where, "said"));
        int exit = builder.start().waitFor();
        if (exit != 0) {
            System.out.println(Files.readString(where.toPath().resolve("said")));
        }
        return exit;
    }

    private static void remove(Path room) throws IOException {
        try (Stream<Path> all = Files.walk(room)) {
            for (Path each : all.sorted(Comparator.reverseOrder()).toList()) {
                Files.delete(each);
            }
        }
    }
}
