import java.io.IOException;
import java.io.InputStream;
import java.nio.charset.StandardCharsets;
import java.nio.file.DirectoryStream;
import java.nio.file.Files;
import java.nio.file.Path;
import java.util.ArrayList;
import java.util.Comparator;
import java.util.List;
import java.util.regex.Matcher;
import java.util.regex.Pattern;
import java.util.stream.Stream;

/** What README.md says of using the class and of running its tests: done as it is written there. */
public final class ReadmeTests {
    private static final Path PAGE = Path.of("README.md");
    private static final Path SCRIPT = Path.of(".ci/run");
    private static final Path TESTS = Path.of("src/test/java");

    private ReadmeTests() { }

    public static void main(String[] args) throws IOException, InterruptedException {
        String page = Files.readString(PAGE);
        Path room = Files.createTempDirectory("readme");
        try {
            Path folder = layOut(room);
            usesTheClass(page, folder);
            runsTests(page, folder);
        } finally {
            remove(room);
        }
        Checks.close("ReadmeTests");
    }

    /** The commands write files, so they are run in a folder that only looks like the project's. */
    private static Path layOut(Path room) throws IOException {
        Path folder = Files.createDirectory(room.resolve("main"));
        Files.createSymbolicLink(folder.resolve("src"), Path.of("src").toRealPath());
        Files.createSymbolicLink(room.resolve("shared"), Path.of("../shared").toRealPath());
        return folder;
    }

    private static void usesTheClass(String page, Path folder) throws IOException, InterruptedException {
        List<String> programs = blocks(page, "java");
        List<String> prints = blocks(page, "text");
        Checks.is("programs on the page", programs.size(), 1);
        Checks.is("what is printed, on the page", prints.size(), 1);
        Matcher name = Pattern.compile("public final class (\\w+)").matcher(programs.get(0));
        Checks.holds("the program has a name", name.find());
        String file = name.group(1) + ".java";
        Checks.holds("the page says how to save it", page.contains("Save this as `" + file + "`"));
        Files.writeString(folder.resolve(file), programs.get(0));
        Checks.holds("its commands print what the page says",
                printedBy(blocks(page, "sh").get(0), folder).equals(prints.get(0)));
    }

    private static void runsTests(String page, Path folder) throws IOException, InterruptedException {
        List<String> commands = blocks(page, "sh");
        Checks.is("blocks of commands on the page", commands.size(), 2);
        printedBy(commands.get(1), folder);
        // Not run here, as it runs this very test.
        Checks.holds("the page says how to run all", page.contains("\n    " + SCRIPT + "\n"));
        Checks.holds(SCRIPT + " can be run", Files.isExecutable(SCRIPT));
        try (DirectoryStream<Path> tests = Files.newDirectoryStream(TESTS, "*Tests.java")) {
            for (Path test : tests) {
                String name = test.getFileName().toString().replace(".java", "");
                Checks.holds("the page tells of " + name, page.contains("- `" + name + "`: "));
            }
        }
        Matcher told = Pattern.compile("- `(\\w+)`: ").matcher(page);
        while (told.find()) {
            Checks.holds(told.group(1) + " is there", Files.exists(TESTS.resolve(told.group(1) + ".java")));
        }
    }

    private static List<String> blocks(String page, String kind) {
        Matcher block = Pattern.compile("(?ms)^```" + kind + "\n(.*?)^```$").matcher(page);
        List<String> found = new ArrayList<>();
        while (block.find()) {
            found.add(block.group(1));
        }
        return found;
    }

    private static String printedBy(String commands, Path folder) throws IOException, InterruptedException {
        ProcessBuilder shell = new ProcessBuilder("bash", "-e", "-c", commands).directory(folder.toFile());
        Process running = shell.redirectError(ProcessBuilder.Redirect.INHERIT).start();
        String printed;
        try (InputStream out = running.getInputStream()) {
            printed = new String(out.readAllBytes(), StandardCharsets.UTF_8);
        }
        int code = running.waitFor();
        Checks.is("exit code of\n" + commands + printed, code, 0);
        return printed;
    }

    private static void remove(Path room) throws IOException {
        List<Path> all;
        try (Stream<Path> found = Files.walk(room)) {
            all = found.sorted(Comparator.reverseOrder()).toList();
        }
        for (Path path : all) {
            Files.delete(path);
        }
    }
}
