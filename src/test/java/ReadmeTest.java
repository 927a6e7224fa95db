import java.io.IOException;
import java.nio.file.Files;
import java.nio.file.Path;
import java.util.ArrayList;
import java.util.Comparator;
import java.util.List;
import java.util.regex.Matcher;
import java.util.regex.Pattern;
import java.util.stream.Stream;

/** What README.md shows is so: its program and its commands are taken from it as they stand, and done. */
final class ReadmeTest {
    private static final Due DUE = new Due();
    private static final Path ROOT = Path.of("").toAbsolutePath();
    private static final Pattern BLOCK = Pattern.compile("(?s)\n```(java|sh)\n(.*?)```\n");
    private static final Pattern PRINTED = Pattern.compile("System\\.out\\.println\\((.*)\\); // (.*)");

    public static void main(String[] args) throws IOException, InterruptedException {
        String readme = Files.readString(ROOT.resolve("README.md"));
        Path work = Files.createTempDirectory("readme");
        try {
            // What the commands make must not be made in the project itself.
            Files.createSymbolicLink(work.resolve("src"), ROOT.resolve("src"));
            programs(readme, work);
            commands(readme, work);
        } finally {
            remove(work);
        }
        tests(readme);
        insideClasses(readme);
        DUE.end();
    }

    private static List<String> blocks(String readme, String kind) {
        List<String> blocks = new ArrayList<>();
        Matcher m = BLOCK.matcher(readme);
        while (m.find()) {
            if (m.group(1).equals(kind)) {
                blocks.add(m.group(2));
            }
        }
        return blocks;
    }

    private static void programs(String readme, Path work) throws IOException {
        List<String> programs = blocks(readme, "java");
        DUE.is("one program", programs.size(), 1);
        Files.writeString(work.resolve("Example.java"), programs.get(0));
    }

    private static void commands(String readme, Path work) throws IOException, InterruptedException {
        List<String> commands = blocks(readme, "sh");
        DUE.is("three blocks of commands", commands.size(), 3);
        asPrinted(readme, outputOf(commands.get(0), work));
        // It runs this test, so it can't be run by it.
        DUE.is("all tests", commands.get(1).equals(".ci/run\n"), true);
        DUE.is(".ci/run can be run", Files.isExecutable(ROOT.resolve(".ci/run")), true);
        List<String> alone = outputOf(commands.get(2), work);
        String last = alone.isEmpty() ? "" : alone.get(alone.size() - 1);
        DUE.is("one test alone: " + last, last.endsWith(" answers, 0 not as due"), true);
    }

    /** What a block of commands prints; each of them must end well. */
    private static List<String> outputOf(String commands, Path work) throws IOException, InterruptedException {
        Process process = new ProcessBuilder("sh", "-e", "-c", commands).directory(work.toFile())
            .redirectErrorStream(true).start();
        process.getOutputStream().close();
        List<String> lines = new String(process.getInputStream().readAllBytes()).lines().toList();
        int end = process.waitFor();
        DUE.is(commands + "ends with " + end + " and " + lines, end, 0);
        return lines;
    }

    private static void asPrinted(String readme, List<String> printed) {
        int at = 0;
        Matcher m = PRINTED.matcher(blocks(readme, "java").get(0));
        while (m.find()) {
            String got = at < printed.size() ? printed.get(at) : "nothing";
            DUE.is(m.group(1) + " prints " + got + " where README.md says " + m.group(2), got.equals(m.group(2)), true);
            at++;
        }
        DUE.is("as many lines", printed.size(), at);
        DUE.is("many lines", at > 20, true);
    }

    /** Each test is told, and each that is told is there. */
    private static void tests(String readme) throws IOException {
        try (Stream<Path> files = Files.list(ROOT.resolve("src/test/java"))) {
            for (Path file : files.sorted().toList()) {
                String name = file.getFileName().toString().replace(".java", "");
                DUE.is(name + " is told", readme.contains("\n| `" + name + "` |"), name.endsWith("Test"));
            }
        }
        Matcher m = Pattern.compile("`(\\w+Test)`").matcher(readme);
        while (m.find()) {
            Path file = ROOT.resolve("src/test/java/" + m.group(1) + ".java");
            DUE.is(m.group(1) + " is there", Files.exists(file), true);
        }
    }

    private static void insideClasses(String readme) {
        int classes = 0;
        for (Class<?> c : ToadBank.class.getDeclaredClasses()) {
            DUE.is(c.getSimpleName() + " is told", readme.contains("`" + c.getSimpleName() + "`"), true);
            classes++;
        }
        DUE.is("classes are seen", classes > 0, true);
    }

    private static void remove(Path directory) throws IOException {
        try (Stream<Path> files = Files.walk(directory)) {
            for (Path file : files.sorted(Comparator.reverseOrder()).toList()) {
                Files.delete(file);
            }
        }
    }
}
