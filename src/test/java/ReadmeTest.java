import java.io.IOException;
import java.lang.reflect.Method;
import java.lang.reflect.Modifier;
import java.net.URL;
import java.net.URLClassLoader;
import java.nio.file.Files;
import java.nio.file.Path;
import java.util.ArrayList;
import java.util.Comparator;
import java.util.List;
import java.util.regex.Matcher;
import java.util.regex.Pattern;
import java.util.stream.Stream;
import javax.tools.ToolProvider;

/** README.md: the calls that it shows answer as it says, its commands work where nothing is built, it names all tests. */
public final class ReadmeTest {
    private static final Path README = Path.of("README.md");
    private static final Pattern SHOWN = Pattern.compile("(\\S.*);\\s+// (-?\\d+|true|false): .+");

    public static void main(String[] args) throws Exception {
        String page = Files.readString(README);
        Path room = Files.createTempDirectory("readme");
        try {
            runShownCalls(blocks(page, "java"), room);
            showsAllOfTheFace(page);
            runCommands(blocks(page, "sh"), room);
            namesAllTests(page);
        } finally {
            clear(room);
        }
        Due.end();
    }

    private static List<String> blocks(String page, String kind) {
        List<String> found = new ArrayList<>();
        Matcher block = Pattern.compile("(?ms)^```" + kind + "\n(.*?)^```$").matcher(page);
        while (block.find()) {
            found.add(block.group(1));
        }
        Due.is("README.md has blocks of " + kind, !found.isEmpty(), true);
        return found;
    }

    // ---- the calls

    /** Makes a class of all blocks, whose shown answers are compared with the real ones, and runs it. */
    private static void runShownCalls(List<String> blocks, Path room) throws Exception {
        StringBuilder helpers = new StringBuilder();
        StringBuilder runs = new StringBuilder();
        for (String block : blocks) {
            if (block.startsWith("static ")) {
                helpers.append(block);
            } else {
                runs.append("{\n").append(compared(block)).append("}\n");
            }
        }
        Path source = room.resolve("Shown.java");
        Files.writeString(source, "public final class Shown {\n" + helpers
            + "static void is(String call, long got, long want) { ReadmeTest.compare(call, got, want); }\n"
            + "static void is(String call, boolean got, boolean want) { is(call, got ? 1 : 0, want ? 1 : 0); }\n"
            + "public static void main(String[] args) {\n" + runs + "}\n}\n");
        int compiled = ToolProvider.getSystemJavaCompiler().run(null, System.out, System.out,
            "-cp", System.getProperty("java.class.path"), "-d", room.toString(), source.toString());
        Due.is("what README.md shows compiles", compiled, 0);
        if (compiled == 0) {
            try (URLClassLoader loader = new URLClassLoader(new URL[] {room.toUri().toURL()})) {
                loader.loadClass("Shown").getMethod("main", String[].class).invoke(null, (Object) new String[0]);
            }
        }
    }

    private static String compared(String block) {
        StringBuilder code = new StringBuilder();
        for (String line : block.split("\n")) {
            Matcher shown = SHOWN.matcher(line);
            if (shown.matches()) {
                String call = shown.group(1);
                code.append("is(\"").append(call.replace("\"", "\\\"")).append("\", ").append(call).append(", ")
                    .append(shown.group(2)).append(");\n");
            } else {
                Due.is("README.md: a call without its answer, or no call: " + line,
                    line.equals("RopeScale x = new RopeScale();"), true);
                code.append(line).append('\n');
            }
        }
        return code.toString();
    }

    /** For the class that is made: Due itself can't be seen from another class loader. */
    public static void compare(String call, long got, long want) {
        Due.is("README.md: " + call, got, want);
    }

    private static void showsAllOfTheFace(String page) {
        for (Method method : RopeScale.class.getDeclaredMethods()) {
            if (Modifier.isPublic(method.getModifiers())) {
                boolean isShown = Pattern.compile("(?m)^x\\." + method.getName() + "\\(").matcher(page).find();
                Due.is("README.md shows " + method.getName(), isShown, true);
            }
        }
    }

    // ---- the commands

    /** Runs them beside the shared documents, on a copy that has the sources and nothing that was made of them. */
    private static void runCommands(List<String> blocks, Path room) throws IOException, InterruptedException {
        Path copy = room.resolve("main");
        copyTree(Path.of("src"), copy.resolve("src"));
        Files.createSymbolicLink(room.resolve("shared"), Path.of("../shared").toRealPath());
        boolean tellsAll = false;
        for (String block : blocks) {
            if (block.strip().equals(".ci/run")) {
                // It is what runs this test: run from here it would not end.
                tellsAll = true;
                Due.is(".ci/run can be run", Files.isExecutable(Path.of(".ci/run")), true);
            } else {
                Due.is("README.md: " + block, exitCode(block, copy), 0);
            }
        }
        Due.is("README.md tells .ci/run", tellsAll, true);
    }

    private static int exitCode(String commands, Path in) throws IOException, InterruptedException {
        Process process = new ProcessBuilder("sh", "-e", "-c", commands).directory(in.toFile())
            .redirectErrorStream(true).start();
        String said = new String(process.getInputStream().readAllBytes());
        int code = process.waitFor();
        if (code != 0) {
            System.out.println(said);
        }
        return code;
    }

    private static void copyTree(Path from, Path to) throws IOException {
        for (Path one : tree(from)) {
            Path target = to.resolve(from.relativize(one).toString());
            if (Files.isDirectory(one)) {
                Files.createDirectories(target);
            } else if (one.toString().endsWith(".java")) {
                Files.copy(one, target);
            }
        }
    }

    private static void namesAllTests(String page) throws IOException {
        for (Path one : tree(Path.of("src/test/java"))) {
            String name = one.getFileName().toString();
            if (name.endsWith("Test.java")) {
                String row = "| " + name.replace(".java", "") + " | ";
                Due.is("README.md's table names " + name, page.contains(row), true);
            }
        }
    }

    // ---- files

    /** The folder and all that is in it, each ahead of what is in itself. */
    private static List<Path> tree(Path top) throws IOException {
        try (Stream<Path> all = Files.walk(top)) {
            return all.sorted().toList();
        }
    }

    private static void clear(Path room) throws IOException {
        List<Path> all = new ArrayList<>(tree(room));
        all.sort(Comparator.reverseOrder());
        for (Path one : all) {
            Files.delete(one);
        }
    }
}
