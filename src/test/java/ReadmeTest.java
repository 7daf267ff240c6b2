import java.io.IOException;
import java.lang.reflect.Method;
import java.lang.reflect.Modifier;
import java.nio.file.Files;
import java.nio.file.Path;
import java.util.ArrayList;
import java.util.List;
import java.util.Set;
import java.util.TreeSet;
import java.util.regex.Matcher;
import java.util.regex.Pattern;
import java.util.stream.Stream;

/** What README.md says holds as it stands there: its commands run, its example answers as its remarks say, nothing is left out. */
public final class ReadmeTest {
    private static final Pattern BLOCK = Pattern.compile("```(\\w+)\\n(.*?)```", Pattern.DOTALL);
    private static final Pattern ANSWER = Pattern.compile("(?:show|println)\\(.*\\); *// (.*)");

    /** What a clean checkout's commands may not lean on. */
    private static final Set<String> UNTOLD = Set.of(".git", "out");

    private ReadmeTest() {
    }

    public static void main(String[] args) throws IOException, InterruptedException {
        Path project = Path.of(System.getProperty("project", ".")).toRealPath();
        String readme = Files.readString(project.resolve("README.md"));
        String example = Files.readString(project.resolve("example/Example.java"));
        Check.text("the example in README.md", String.join("", blocks(readme, "java")), example);
        calls(readme, example);
        tests(readme, project);
        Path copy = Files.createTempDirectory("readme");
        try {
            copyTree(project, copy);
            commands(readme, copy, due(example));
        } finally {
            remove(copy);
        }
        Check.end();
    }

    private static List<String> blocks(String readme, String sort) {
        List<String> found = new ArrayList<>();
        Matcher block = BLOCK.matcher(readme);
        while (block.find()) {
            if (block.group(1).equals(sort)) {
                found.add(block.group(2));
            }
        }
        return found;
    }

    /** What the example prints by its remarks: what stands ahead of a remark's first ": ". */
    private static String due(String example) {
        StringBuilder lines = new StringBuilder();
        Matcher answer = ANSWER.matcher(example);
        while (answer.find()) {
            lines.append(answer.group(1).split(": ")[0].trim()).append('\n');
        }
        return lines.toString();
    }

    private static void calls(String readme, String example) {
        String table = readme.substring(0, readme.indexOf("```java"));
        for (Method m : TreePeers.class.getDeclaredMethods()) {
            if (Modifier.isPublic(m.getModifiers())) {
                Check.is("README.md tells of " + m.getName(), table.contains("`" + m.getName() + "`"), true);
                Check.is("the example calls " + m.getName(), example.contains("x." + m.getName() + "("), true);
            }
        }
    }

    private static void tests(String readme, Path project) throws IOException {
        Set<String> told = new TreeSet<>();
        Matcher name = Pattern.compile("`(\\w+Test)`").matcher(readme);
        while (name.find()) {
            told.add(name.group(1));
        }
        Set<String> there = new TreeSet<>();
        try (Stream<Path> files = Files.list(project.resolve("src/test/java"))) {
            files.map(f -> f.getFileName().toString()).filter(f -> f.endsWith("Test.java")).forEach(f -> there.add(f.replace(".java", "")));
        }
        Check.text("the tests of which README.md tells", told.toString(), there.toString());
    }

    /** Each command in its order, in a copy of the project; .ci/run is what runs this test. */
    private static void commands(String readme, Path project, String example) throws IOException, InterruptedException {
        int run = 0;
        for (String block : blocks(readme, "sh")) {
            for (String command : block.split("\\n")) {
                run++;
                if (command.equals(".ci/run")) {
                    Check.is(command + " can be run", Files.isExecutable(project.resolve(command)), true);
                    continue;
                }
                String printed = run(command, project);
                if (command.equals("java -cp out Example")) {
                    Check.text("what the example prints", printed, example);
                }
            }
        }
        Check.is("README.md has commands", run > 0, true);
    }

    private static String run(String command, Path directory) throws IOException, InterruptedException {
        ProcessBuilder builder = new ProcessBuilder("sh", "-c", command).directory(directory.toFile()).redirectErrorStream(true);
        Process process = builder.start();
        process.getOutputStream().close();
        String printed = new String(process.getInputStream().readAllBytes());
        int code = process.waitFor();
        Check.is("'" + command + "' (it printed: " + printed + ") ended with a code that", code, 0);
        return printed.replace(System.lineSeparator(), "\n");
    }

    private static void copyTree(Path from, Path to) throws IOException {
        List<Path> all;
        try (Stream<Path> files = Files.walk(from)) {
            all = files.filter(f -> !UNTOLD.contains(from.relativize(f).getName(0).toString())).toList();
        }
        for (Path file : all) {
            Path target = to.resolve(from.relativize(file).toString());
            if (Files.isDirectory(file)) {
                Files.createDirectories(target);
            } else {
                Files.write(target, Files.readAllBytes(file));
                Check.is(target + " is made", target.toFile().setExecutable(Files.isExecutable(file)), true);
            }
        }
    }

    private static void remove(Path directory) throws IOException {
        List<Path> all;
        try (Stream<Path> files = Files.walk(directory)) {
            all = files.sorted(java.util.Comparator.reverseOrder()).toList();
        }
        for (Path file : all) {
            Files.delete(file);
        }
    }
}
