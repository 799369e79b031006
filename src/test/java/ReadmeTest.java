import java.io.IOException;
import java.lang.reflect.Method;
import java.lang.reflect.Modifier;
import java.nio.file.Files;
import java.nio.file.Path;
import java.util.ArrayList;
import java.util.Comparator;
import java.util.HashSet;
import java.util.List;
import java.util.Set;
import java.util.TreeSet;
import java.util.regex.Matcher;
import java.util.regex.Pattern;
import java.util.stream.Stream;

/** README.md holds as it stands: its program and what that prints, its commands, its calls, its tests. */
public final class ReadmeTest {
    private static final Path README = Path.of("README.md");
    private static final Path TESTS = Path.of("src/test/java");
    private static final Pattern BLOCK = Pattern.compile("(?m)^```(\\w+)\n(.*?)^```$", Pattern.DOTALL);
    private static final Pattern CALL = Pattern.compile("`(\\w+)\\(([^`]*)\\)`");
    private static final Pattern TEST = Pattern.compile("`(\\w+Test)`");

    private final String readme;

    private ReadmeTest(String readme) {
        this.readme = readme;
    }

    public static void main(String[] args) throws Exception {
        ReadmeTest test = new ReadmeTest(Files.readString(README));
        test.programIsTheExample();
        test.commandsRun();
        test.callsAreTheFace();
        test.testsAreThere();
        Due.end();
    }

    private List<String> blocks(String of) {
        List<String> found = new ArrayList<>();
        Matcher block = BLOCK.matcher(readme);
        while (block.find()) {
            if (block.group(1).equals(of)) {
                found.add(block.group(2));
            }
        }
        return found;
    }

    private void programIsTheExample() throws IOException {
        hold(blocks("java").equals(List.of(Files.readString(TESTS.resolve("Example.java")))),
                "the program in README.md is not Example.java");
    }

    private void commandsRun() throws IOException, InterruptedException {
        List<String> prints = new ArrayList<>();
        for (String commands : blocks("sh")) {
            // Not run here, since it runs this test; whoever reads its last line knows that it holds.
            if (commands.equals(".ci/run\n")) {
                hold(Files.isExecutable(Path.of(".ci/run")), ".ci/run is not executable");
            } else {
                prints.add(run(commands));
            }
        }
        hold(prints.size() == 3, prints.size() + " commands were run, due are 3");
        hold(blocks("text").size() == 1 && prints.contains(blocks("text").get(0)),
                "the example does not print what README.md says");
    }

    /** What the commands print; where they build is a directory of its own, which is not left behind. */
    private static String run(String commands) throws IOException, InterruptedException {
        Path build = Files.createTempDirectory("readme");
        try {
            hold(commands.contains(" build/"), "the commands build elsewhere: " + commands);
            Process process = new ProcessBuilder("bash", "-e", "-c", commands.replace(" build/", " " + build + "/"))
                    .redirectErrorStream(true).start();
            String prints = new String(process.getInputStream().readAllBytes());
            hold(process.waitFor() == 0, "the commands fail: " + commands + prints);
            return prints;
        } finally {
            remove(build);
        }
    }

    private static void remove(Path directory) throws IOException {
        List<Path> all;
        try (Stream<Path> inside = Files.walk(directory)) {
            all = inside.sorted(Comparator.reverseOrder()).toList();
        }
        for (Path path : all) {
            Files.delete(path);
        }
    }

    /** Each public method is named with as many arguments as it has, and no other is. */
    private void callsAreTheFace() {
        Set<String> face = new TreeSet<>();
        for (Method method : RottenSeats.class.getDeclaredMethods()) {
            if (Modifier.isPublic(method.getModifiers())) {
                face.add(method.getName() + " of " + method.getParameterCount());
            }
        }
        Set<String> named = new TreeSet<>();
        Matcher call = CALL.matcher(readme);
        while (call.find()) {
            int arguments = call.group(2).isEmpty() ? 0 : call.group(2).split(",").length;
            named.add(call.group(1) + " of " + arguments);
        }
        hold(named.equals(face), "README.md names " + named + ", due are " + face);
    }

    private void testsAreThere() throws IOException {
        Set<String> there = new TreeSet<>();
        try (Stream<Path> files = Files.list(TESTS)) {
            files.map(file -> file.getFileName().toString()).filter(name -> name.endsWith("Test.java"))
                    .forEach(name -> there.add(name.substring(0, name.length() - ".java".length())));
        }
        Set<String> named = new HashSet<>();
        Matcher test = TEST.matcher(readme);
        while (test.find()) {
            named.add(test.group(1));
        }
        hold(named.equals(there), "README.md names " + new TreeSet<>(named) + ", due are " + there);
    }

    private static void hold(boolean so, String otherwise) {
        if (so) {
            Due.due(otherwise, 0, 0);
        } else {
            Due.fail(otherwise);
        }
    }
}
