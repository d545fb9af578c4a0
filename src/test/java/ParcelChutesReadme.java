import java.io.IOException;
import java.lang.reflect.Method;
import java.lang.reflect.Modifier;
import java.nio.charset.StandardCharsets;
import java.nio.file.Files;
import java.nio.file.Path;
import java.util.ArrayList;
import java.util.Comparator;
import java.util.List;
import java.util.Set;
import java.util.TreeSet;
import java.util.regex.Matcher;
import java.util.regex.Pattern;
import java.util.stream.Collectors;
import java.util.stream.Stream;

/** What README.md says of the use of the class and of running its tests holds as it is written there. */
public final class ParcelChutesReadme {
    private static final Path MAIN = Path.of("src/main/java/ParcelChutes.java");
    private static final Path TESTS = Path.of("src/test/java");
    private static final Pattern PRINTED = Pattern.compile("System\\.out\\.println\\(.*\\); +// ([^:]+): .*");
    private static final Pattern LISTED = Pattern.compile("(?m)^- `(\\w+)`: ");

    private static int wrong = 0;

    private static void check(boolean so, String what) {
        if (!so) {
            wrong++;
            System.out.println(what);
        }
    }

    /** The code blocks of one language, in their order. */
    private static List<String> blocks(String readme, String language) {
        List<String> found = new ArrayList<>();
        Matcher block = Pattern.compile("(?ms)^```" + language + "\n(.*?)^```$").matcher(readme);
        while (block.find()) {
            found.add(block.group(1));
        }
        return found;
    }

    /** What the program says that it prints, line by line; a line that prints and doesn't say so is wrong. */
    private static List<String> told(String program) {
        List<String> lines = new ArrayList<>();
        for (String line : program.split("\n")) {
            Matcher printed = PRINTED.matcher(line.strip());
            if (printed.matches()) {
                lines.add(printed.group(1));
            } else {
                check(!line.contains("println"), "the README doesn't say what this prints: " + line);
            }
        }
        return lines;
    }

    private static void checkProgram(String program, String commands) throws IOException, InterruptedException {
        Path directory = Files.createTempDirectory("readme");
        try {
            Files.createDirectories(directory.resolve(MAIN).getParent());
            Files.copy(MAIN, directory.resolve(MAIN));
            Files.writeString(directory.resolve("Mine.java"), program);
            // Not read with the output: java may tell there of options that the environment gives it.
            Process process = new ProcessBuilder("sh", "-e", "-c", commands)
                    .directory(directory.toFile()).redirectError(ProcessBuilder.Redirect.INHERIT).start();
            String output = new String(process.getInputStream().readAllBytes(), StandardCharsets.UTF_8);
            check(process.waitFor() == 0, "the README's commands fail: " + commands);
            List<String> want = told(program);
            check(output.lines().toList().equals(want), "the README's program printed\n" + output + "due is " + want);
        } finally {
            delete(directory);
        }
    }

    private static void delete(Path directory) throws IOException {
        try (Stream<Path> all = Files.walk(directory)) {
            for (Path path : all.sorted(Comparator.reverseOrder()).toList()) {
                Files.delete(path);
            }
        }
    }

    private static void checkEveryCallIsShown(String program) {
        for (Method method : ParcelChutes.class.getDeclaredMethods()) {
            boolean shown = program.contains("x." + method.getName() + "(");
            check(shown || !Modifier.isPublic(method.getModifiers()), "the README doesn't show " + method.getName() + "()");
        }
    }

    private static void checkTestsAreListed(String readme) throws IOException {
        Set<String> listed = new TreeSet<>();
        Matcher entry = LISTED.matcher(readme);
        while (entry.find()) {
            listed.add(entry.group(1) + ".java");
        }
        try (Stream<Path> files = Files.list(TESTS)) {
            Set<String> there = files.map(file -> file.getFileName().toString()).collect(Collectors.toCollection(TreeSet::new));
            check(there.equals(listed), "the README lists the tests " + listed + ", there are " + there);
        }
    }

    public static void main(String[] args) throws IOException, InterruptedException {
        String readme = Files.readString(Path.of("README.md"));
        List<String> programs = blocks(readme, "java");
        List<String> commands = blocks(readme, "sh");
        if (programs.size() == 1 && commands.size() == 2) {
            checkProgram(programs.get(0), commands.get(0));
            checkEveryCallIsShown(programs.get(0));
            check(Files.isExecutable(Path.of(commands.get(1).strip())), "can't be run: " + commands.get(1));
        } else {
            check(false, "the README has " + programs.size() + " programs and " + commands.size() + " runs of commands");
        }
        checkTestsAreListed(readme);
        System.out.println(wrong == 0 ? "the README holds" : wrong + " things are not as the README says");
        if (wrong != 0) {
            System.exit(1);
        }
    }
}
