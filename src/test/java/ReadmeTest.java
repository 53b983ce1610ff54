import java.io.IOException;
import java.io.UncheckedIOException;
import java.nio.charset.StandardCharsets;
import java.nio.file.Files;
import java.nio.file.Path;
import java.util.ArrayList;
import java.util.List;
import java.util.TreeSet;
import java.util.regex.Matcher;
import java.util.regex.Pattern;

/** What README.md says to run runs as it stands there, and the calls that it tells of are the class's. */
public final class ReadmeTest extends Due {
    private static final String TESTS = ".ci/run\n";

    private static String read(String file) {
        try {
            return Files.readString(Path.of(file));
        } catch (IOException e) {
            throw new UncheckedIOException(e);
        }
    }

    private static List<String> found(String pattern, String text) {
        List<String> parts = new ArrayList<>();
        Matcher m = Pattern.compile(pattern).matcher(text);
        while (m.find()) {
            parts.add(m.group(1));
        }
        return parts;
    }

    private static List<String> parts(String language) {
        return found("(?ms)^```" + language + "\\n(.*?)^```$", read("README.md"));
    }

    /** Its output, behind a line of its own with its exit code. */
    private static String run(String commands) {
        try {
            Process p = new ProcessBuilder("sh", "-e", "-c", commands).redirectErrorStream(true).start();
            p.getOutputStream().close();
            String output = new String(p.getInputStream().readAllBytes(), StandardCharsets.UTF_8);
            return "exit " + p.waitFor() + "\n" + output;
        } catch (IOException e) {
            throw new UncheckedIOException(e);
        } catch (InterruptedException e) {
            return "interrupted";
        }
    }

    /** Not run here: this test is a part of it. */
    private static void theTestsAreRunByCi() {
        due("commands that run all tests", parts("sh").stream().filter(TESTS::equals).count(), 1);
        due("it may be run", Files.isExecutable(Path.of(".ci/run")) ? 1 : 0, 1);
    }

    private static void theExampleRuns() {
        List<String> commands = parts("sh");
        due("programs", parts("java").size(), 1);
        due("outputs", parts("text").size(), 1);
        due("the program", parts("java").get(0), read("src/example/java/Example.java"));
        due("its output", run(commands.get(0)), "exit 0\n" + parts("text").get(0));
    }

    private static void theOtherCommandsRun() {
        for (String commands : parts("sh")) {
            if (!commands.equals(TESTS)) {
                String output = run(commands);
                due(commands + output, output.startsWith("exit 0\n") ? 1 : 0, 1);
            }
        }
    }

    private static void theCallsAreThoseOfTheClass() {
        List<String> face = found("(?m)^    public ((?:int|long) \\w+\\(.*?\\)) \\{$", read("src/main/java/LazyBlocks.java"));
        List<String> told = found("(?m)^\\| `((?:int|long) \\w+\\(.*?\\))` \\|", read("README.md"));
        due("calls of the class", face.size(), 18);
        due("calls", String.join("\n", told), String.join("\n", face));
    }

    private static void theConstantsAreThoseOfTheClass() {
        List<String> told = found("(?m)^\\| (`[A-Z]+` \\| -?\\d+) \\|", read("README.md"));
        String due = "`NONE` | " + LazyBlocks.NONE + "\n`BAD` | " + LazyBlocks.BAD
            + "\n`REFUSED` | " + LazyBlocks.REFUSED + "\n`FULL` | " + LazyBlocks.FULL;
        due("constants", String.join("\n", told), due);
    }

    private static void eachTestIsTold() {
        TreeSet<String> told = new TreeSet<>(found("(?m)^- `(\\w+Test)`:", read("README.md")));
        TreeSet<String> there = new TreeSet<>();
        for (String name : Path.of("src/test/java").toFile().list()) {
            there.add(name.replaceAll("\\.java$", ""));
        }
        due("tests", told.toString(), there.toString());
    }

    public static void main(String[] args) {
        holds("how to run its tests", ReadmeTest::theTestsAreRunByCi);
        holds("how to use the class: the example", ReadmeTest::theExampleRuns);
        holds("what it says to run runs as it stands there", ReadmeTest::theOtherCommandsRun);
        holds("its calls", ReadmeTest::theCallsAreThoseOfTheClass);
        holds("what they answer: constants", ReadmeTest::theConstantsAreThoseOfTheClass);
        holds("each test of the project is told of", ReadmeTest::eachTestIsTold);
        end();
    }
}
