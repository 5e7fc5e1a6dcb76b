import java.io.IOException;
import java.nio.file.Files;
import java.nio.file.Path;
import java.nio.file.StandardCopyOption;
import java.util.ArrayList;
import java.util.Comparator;
import java.util.List;
import java.util.regex.Matcher;
import java.util.regex.Pattern;
import java.util.stream.Stream;

/** The commands that README.md names run, its calls answer as it says, and it names each test. */
public final class ReadmeTest {
    /** Set for the commands, one of which runs all tests: this one must not begin anew in there. */
    private static final String INSIDE = "WALLED_FIELDS_README";
    private static final Pattern CALL = Pattern.compile("(w\\.\\w+\\(.*\\)); +// (-?\\d+)(: .*)?");

    private static int wrong;

    private static void check(boolean isRight, String what) {
        if (!isRight) {
            wrong++;
            System.out.println("README.md: " + what);
        }
    }

    public static void main(String[] args) throws IOException, InterruptedException {
        if (System.getenv(INSIDE) != null) {
            System.out.println("a command of README.md runs this: nothing to do");
            return;
        }
        Path project = Path.of("").toAbsolutePath();
        List<String> lines = Files.readAllLines(project.resolve("README.md"));
        List<String> commands = blocksOf(lines, "sh");
        checkNames(lines, commands);
        Path room = Files.createTempDirectory("readme");
        try {
            Path copy = copyOf(project, room);
            for (String command : commands) {
                checkCommand(copy, command);
            }
            checkCalls(copy, blocksOf(lines, "java"));
        } finally {
            removeAll(room);
        }
        System.out.println(commands.size() + " commands were run, " + wrong + " faults found");
        if (wrong != 0) System.exit(1);
    }

    // ---- the page

    /** All lines in fences of a sort. */
    private static List<String> blocksOf(List<String> lines, String sort) {
        List<String> found = new ArrayList<>();
        String open = "";
        for (String line : lines) {
            if (line.startsWith("```")) {
                open = open.isEmpty() ? line : "";
            } else if (open.equals("```" + sort) && !line.isBlank()) {
                found.add(line);
            }
        }
        check(open.isEmpty(), "a fence isn't closed");
        return found;
    }

    private static void checkNames(List<String> lines, List<String> commands) throws IOException {
        String page = String.join("\n", lines);
        check(commands.contains(".ci/run"), "doesn't tell how to run all tests");
        check(commands.stream().anyMatch(c -> c.matches("javac .*src/main/java/WalledFields\\.java")), "doesn't tell how to build the class");
        // A command outside of a fence would be one that nobody runs.
        check(!Pattern.compile("(?m)`javac? [^`]|^( {4}|\t)").matcher(page).find(), "has a command outside of a fence");
        for (String test : namesOf(Path.of("src/test/java"), "Test.java")) {
            check(page.contains("`" + test + "`"), "doesn't name " + test);
        }
    }

    private static List<String> namesOf(Path folder, String tail) throws IOException {
        try (Stream<Path> files = Files.list(folder)) {
            return files.map(file -> file.getFileName().toString()).filter(name -> name.endsWith(tail))
                .map(name -> name.replace(".java", "")).sorted().toList();
        }
    }

    // ---- commands

    private static void checkCommand(Path folder, String command) throws IOException, InterruptedException {
        Path told = folder.resolveSibling("told");
        ProcessBuilder builder = new ProcessBuilder("sh", "-c", command).directory(folder.toFile())
            .redirectErrorStream(true).redirectOutput(told.toFile());
        builder.environment().put(INSIDE, "1");
        int code = builder.start().waitFor();
        check(code == 0, "the command " + command + " ended with " + code + ":\n" + Files.readString(told));
    }

    // ---- calls

    private static void checkCalls(Path folder, List<String> lines) throws IOException, InterruptedException {
        StringBuilder program = new StringBuilder("public final class ReadmeUse {\n    static int wrong;\n")
            .append("    static void due(String call, long want, long got) {\n")
            .append("        if (want != got) { wrong++; System.out.println(call + \" answers \" + got + \", not \" + want); }\n    }\n")
            .append("    public static void main(String[] args) {\n");
        int calls = 0;
        for (String line : lines) {
            Matcher call = CALL.matcher(line);
            if (call.matches()) {
                calls++;
                program.append("        due(\"").append(call.group(1)).append("\", ").append(call.group(2)).append("L, ")
                    .append(call.group(1)).append(");\n");
            } else {
                check(line.startsWith("// ") || line.startsWith("WalledFields w ="), "a call without an answer: " + line);
                program.append("        ").append(line).append('\n');
            }
        }
        check(calls > 0, "has no calls");
        program.append("        if (wrong != 0) System.exit(1);\n    }\n}\n");
        Files.writeString(folder.resolve("ReadmeUse.java"), program);
        checkCommand(folder, "javac -d build/use src/main/java/WalledFields.java ReadmeUse.java && java -cp build/use ReadmeUse");
    }

    // ---- a copy of the project

    /** So that commands leave nothing behind in the project itself; ../shared is beside the copy as well. */
    private static Path copyOf(Path project, Path room) throws IOException {
        Path copy = Files.createDirectory(room.resolve("main"));
        Files.createSymbolicLink(room.resolve("shared"), project.resolveSibling("shared").toRealPath());
        for (String part : List.of("README.md", ".ci", "src")) {
            try (Stream<Path> files = Files.walk(project.resolve(part))) {
                for (Path file : files.toList()) {
                    Files.copy(file, copy.resolve(project.relativize(file).toString()), StandardCopyOption.COPY_ATTRIBUTES);
                }
            }
        }
        return copy;
    }

    private static void removeAll(Path room) throws IOException {
        try (Stream<Path> files = Files.walk(room)) {
            for (Path file : files.sorted(Comparator.reverseOrder()).toList()) {
                Files.delete(file);
            }
        }
    }
}
