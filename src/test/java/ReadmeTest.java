import java.io.IOException;
import java.lang.reflect.Method;
import java.lang.reflect.Modifier;
import java.nio.file.Files;
import java.nio.file.Path;
import java.util.Arrays;
import java.util.List;
import java.util.Set;
import java.util.TreeSet;
import java.util.regex.Matcher;
import java.util.regex.Pattern;
import java.util.stream.Stream;

/** Each call that README.md shows answers as it says, each method is shown, and each test is named. */
public final class ReadmeTest {
    private static final Pattern MAKING =
            Pattern.compile("(?:TilePyramid )?p = new TilePyramid\\((.*)\\); +// .+");
    private static final Pattern CALL =
            Pattern.compile("p\\.(\\w+)\\((.*)\\); +// (-?\\d+|true|false|[A-Z]\\w+Exception)(?:: .+)?");

    private final Set<String> shown = new TreeSet<>();
    private Counted p = null;

    public static void main(String[] args) throws IOException {
        List<String> lines = Files.readAllLines(Path.of("README.md"));
        ReadmeTest test = new ReadmeTest();
        test.callsAnswerAsSaid(lines);
        test.allIsShown();
        testsAreNamed(String.join("\n", lines));
        Check.end("ReadmeTest");
    }

    private void callsAnswerAsSaid(List<String> lines) {
        boolean inCode = false;
        for (String line : lines) {
            if (line.startsWith("```")) {
                inCode = line.equals("```java");
            } else if (inCode) {
                answersAsSaid(line);
            }
        }
    }

    private void answersAsSaid(String line) {
        Matcher making = MAKING.matcher(line);
        Matcher call = CALL.matcher(line);
        if (making.matches()) {
            int[] sides = numbers(making.group(1));
            p = new Counted(sides[0], sides[1]);
        } else if (call.matches() && p != null) {
            Check.same("README.md: " + line + " what it answers",
                    p.call(call.group(1), numbers(call.group(2))), call.group(3));
            shown.add(call.group(1));
            shown.add(call.group(3));
        } else {
            Check.fault("README.md: no call with its answer: " + line);
        }
    }

    private static int[] numbers(String text) {
        return text.isEmpty() ? new int[0]
                : Arrays.stream(text.split(", ")).mapToInt(Integer::parseInt).toArray();
    }

    private void allIsShown() {
        for (Method m : TilePyramid.class.getDeclaredMethods()) {
            if (Modifier.isPublic(m.getModifiers()) && !shown.contains(m.getName())) {
                Check.fault("README.md does not show " + m.getName());
            }
        }
        for (String thrown : List.of(Check.NO_PLACE, Check.NO_STATE, Check.NO_ARGUMENT)) {
            if (!shown.contains(thrown)) {
                Check.fault("README.md does not show " + thrown);
            }
        }
    }

    private static void testsAreNamed(String text) throws IOException {
        Check.due("README.md names .ci/run", text.contains("\n    .ci/run\n") ? 1 : 0, 1);
        Check.due(".ci/run is there", Files.exists(Path.of(".ci/run")) ? 1 : 0, 1);
        try (Stream<Path> files = Files.list(Path.of("src/test/java"))) {
            for (Path file : files.toList()) {
                String name = file.getFileName().toString().replace(".java", "");
                Check.due("README.md names " + name, text.contains("`" + name + "`") ? 1 : 0, 1);
            }
        }
    }
}
