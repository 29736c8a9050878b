import java.io.IOException;
import java.nio.charset.StandardCharsets;
import java.nio.file.Files;
import java.nio.file.Path;
import java.util.List;
import java.util.TreeSet;
import java.util.regex.Matcher;
import java.util.regex.Pattern;

/** README.md shows each call of the face with its answer, and the answers are those that the class gives. */
public final class ReadmeTest {
    private static final Pattern ROW = Pattern.compile("kernel\\.((\\w+)\\(.*\\)); +// ([^ ]+?)(:.*)?");
    private static final List<String> FACE = List.of("about", "ahead", "character", "check", "clear", "compare",
        "convex", "job", "level", "levelOf", "near", "plan", "print", "speed", "split", "step", "working");
    private static int wrong = 0;

    public static void main(String[] args) throws IOException {
        Subject subject = new Subject();
        TreeSet<String> shown = new TreeSet<>();
        for (String line : Files.readAllLines(Path.of("README.md"), StandardCharsets.UTF_8)) {
            Matcher row = ROW.matcher(line);
            if (row.matches()) {
                shown.add(row.group(2));
                due(row.group(1), subject.ask(row.group(1)), row.group(3));
            } else if (line.startsWith("kernel.")) {
                due(line, "no call with an answer", "kernel.call(..); // answer");
            }
        }
        due("the calls in README.md", List.copyOf(shown), FACE);
        System.out.println(wrong == 0 ? "all answers are as due" : wrong + " answers are not as due");
        if (wrong != 0) {
            System.exit(1);
        }
    }

    private static void due(String what, Object got, Object want) {
        if (!got.equals(want)) {
            wrong++;
            System.out.println("README.md: " + what + " answered " + got + ", due is " + want);
        }
    }
}
