import java.io.IOException;
import java.lang.reflect.Method;
import java.nio.file.Files;
import java.nio.file.Path;
import java.util.ArrayList;
import java.util.List;
import java.util.Set;
import java.util.TreeSet;
import java.util.regex.Matcher;
import java.util.regex.Pattern;
import java.util.stream.Stream;

/** README.md is true: its commands run as they stand, its example prints what it says, its tables leave nothing out. */
public final class ReadmeTest {
    private static final Path PROJECT = Path.of("").toAbsolutePath();
    private static int wrong = 0;

    public static void main(String[] args) throws IOException, InterruptedException {
        String page = Files.readString(Path.of("README.md"));
        List<String> commands = blocks(page, "sh");
        List<String> programs = blocks(page, "java");
        List<String> printed = blocks(page, "text");
        holds(commands.size() == 4 && programs.size() == 1 && printed.size() == 1, "its blocks are not those known here");
        if (wrong == 0) {
            exampleRuns(programs.get(0), commands.get(0), printed.get(0));
            holds(commands.get(1).equals(".ci/run\n") && Files.isExecutable(Path.of(".ci/run")), "it does not tell .ci/run");
            commandsRun(commands.get(2));
            commandsRun(commands.get(3));
        }
        everyCallIsNamed(page);
        everyTestIsNamed(page);
        System.out.println("ReadmeTest: " + wrong + " things are not as README.md says");
        if (wrong > 0) {
            System.exit(1);
        }
    }

    private static void holds(boolean fact, String otherwise) {
        if (!fact) {
            wrong++;
            System.out.println("ReadmeTest: " + otherwise);
        }
    }

    private static List<String> blocks(String page, String kind) {
        List<String> found = new ArrayList<>();
        Matcher m = Pattern.compile("(?ms)^```" + kind + "\n(.*?)^```$").matcher(page);
        while (m.find()) {
            found.add(m.group(1));
        }
        return found;
    }

    /** A folder like the project's and ../shared beside it, so that what the commands write stays out of both. */
    private static Path makeFolder() throws IOException {
        Path beside = Files.createTempDirectory("readme");
        Path folder = Files.createDirectory(beside.resolve("project"));
        Files.createSymbolicLink(folder.resolve("src"), PROJECT.resolve("src"));
        Files.createSymbolicLink(beside.resolve("shared"), PROJECT.resolve("../shared").toRealPath());
        return folder;
    }

    private static void removeFolder(Path folder) throws IOException {
        List<Path> paths;
        try (Stream<Path> walk = Files.walk(folder.getParent())) {
            paths = new ArrayList<>(walk.toList());
        }
        for (int k = paths.size() - 1; k >= 0; k--) {
            Files.delete(paths.get(k));
        }
    }

    /** What the commands print, and behind it the exit code. */
    private static String run(Path folder, String commands) throws IOException, InterruptedException {
        Process shell = new ProcessBuilder("sh", "-e", "-c", commands).directory(folder.toFile())
                .redirectErrorStream(true).start();
        String told = new String(shell.getInputStream().readAllBytes());
        return told + "exit " + shell.waitFor();
    }

    private static void exampleRuns(String program, String commands, String printed)
            throws IOException, InterruptedException {
        Path folder = makeFolder();
        Files.writeString(folder.resolve("Example.java"), program);
        String told = run(folder, commands);
        holds(told.equals(printed + "exit 0"), "the example prints otherwise:\n" + told);
        removeFolder(folder);
    }

    private static void commandsRun(String commands) throws IOException, InterruptedException {
        Path folder = makeFolder();
        String told = run(folder, commands);
        holds(told.endsWith("exit 0"), "this fails:\n" + commands + told);
        removeFolder(folder);
    }

    private static void everyCallIsNamed(String page) {
        Set<String> named = new TreeSet<>();
        int from = page.indexOf("### Where each call is told");
        int to = page.indexOf("\n## ", Math.max(0, from));
        if (from >= 0 && to >= 0) {
            Matcher m = Pattern.compile("`([a-z]+)`").matcher(page.substring(from, to));
            while (m.find()) {
                named.add(m.group(1));
            }
        }
        Set<String> face = new TreeSet<>();
        for (Method method : LadderMaker.class.getMethods()) {
            if (method.getDeclaringClass() == LadderMaker.class) {
                face.add(method.getName());
            }
        }
        holds(named.equals(face), "it names the calls " + named + ", the class has " + face);
    }

    private static void everyTestIsNamed(String page) throws IOException {
        Set<String> named = new TreeSet<>();
        Matcher m = Pattern.compile("(?m)^\\| `(\\w+Test)` \\|").matcher(page);
        while (m.find()) {
            named.add(m.group(1));
        }
        Set<String> there = new TreeSet<>();
        try (Stream<Path> files = Files.list(Path.of("src/test/java"))) {
            files.map(file -> file.getFileName().toString()).filter(name -> name.endsWith("Test.java"))
                    .forEach(name -> there.add(name.replace(".java", "")));
        }
        holds(named.equals(there), "it names the tests " + named + ", there are " + there);
    }
}
