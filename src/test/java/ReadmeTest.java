import java.io.IOException;
import java.nio.file.Files;
import java.nio.file.Path;
import java.util.List;
import java.util.regex.Matcher;
import java.util.regex.Pattern;
import java.util.stream.Collectors;
import java.util.stream.Stream;

/** What README.md shows is what the class answers, and every call and test is named there. */
public final class ReadmeTest {
    private static final Answers ANSWERS = new Answers();
    private static final Path README = Path.of("README.md");
    private static final Path TESTS = Path.of("src", "test", "java");
    private static final Pattern SHOWN = Pattern.compile("(barge\\.[^;]*;) *// (-?\\d+): .*");

    private final List<String> lines;
    private int shown;

    private ReadmeTest(List<String> lines) {
        this.lines = lines;
    }

    public static void main(String[] args) throws IOException {
        ReadmeTest test = new ReadmeTest(Files.readAllLines(README));
        test.example();
        test.callsAndTestsAreNamed();
        ANSWERS.end();
    }

    private void example() {
        BargeBallast barge = new BargeBallast();
        answer("barge.load(1, 200, 2);", barge.load(1, 200, 2));
        answer("barge.count(2);", barge.count(2));
        answer("barge.upright(30, 0);", barge.upright(30, 0));
        answer("barge.upright(30, 1);", barge.upright(30, 1));
        ANSWERS.isTrue("README types the same text",
                lines.contains("for (char sign : \"o0;f5;c0\".toCharArray()) {"));
        Barges.type(barge, "o0;f5;c0");
        answer("barge.orderAll();", barge.orderAll());
        answer("barge.waiting(1, 2);", barge.waiting(1, 2));
        answer("barge.work(12);", barge.work(12));
        answer("barge.count(8);", barge.count(8));
        answer("barge.undo();", barge.undo());
        long due = lines.stream().filter(line -> SHOWN.matcher(line).matches()).count();
        ANSWERS.due("lines of README with an answer", shown, due);
    }

    /** The next line of README that shows an answer shows this call and this answer. */
    private void answer(String call, int answer) {
        List<String> found = lines.stream().filter(line -> SHOWN.matcher(line).matches())
                .skip(shown).limit(1).collect(Collectors.toList());
        shown++;
        ANSWERS.due("README has the line of " + call, found.size(), 1);
        for (String line : found) {
            Matcher parts = SHOWN.matcher(line);
            ANSWERS.isTrue("README calls " + call, parts.matches() && parts.group(1).equals(call));
            ANSWERS.due(call, answer, Integer.parseInt(parts.group(2)));
        }
    }

    private void callsAndTestsAreNamed() throws IOException {
        String all = String.join("\n", lines);
        for (var method : BargeBallast.class.getMethods()) {
            if (method.getDeclaringClass() == BargeBallast.class) {
                ANSWERS.isTrue("README names " + method.getName(),
                        all.contains("`" + method.getName() + "`"));
            }
        }
        try (Stream<Path> files = Files.list(TESTS)) {
            for (Path file : files.collect(Collectors.toList())) {
                String name = file.getFileName().toString().replace(".java", "");
                ANSWERS.isTrue("README names " + name,
                        !name.endsWith("Test") || all.contains("| `" + name + "` |"));
            }
        }
    }
}
