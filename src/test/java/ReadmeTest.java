import java.io.File;
import java.io.IOException;
import java.nio.file.Files;
import java.nio.file.Path;
import java.util.HashMap;
import java.util.Map;
import java.util.regex.Matcher;
import java.util.regex.Pattern;

/** README.md says what is so: its example answers as told there, and it names every call and every test. */
public final class ReadmeTest {
    private static final int LEAST_LINES = 15;
    private static final Pattern LINE = Pattern.compile("(?:int (\\w+) = )?bus\\.(\\w+)\\(([^)]*)\\); +// (\"[^\"]*\"|-?\\w+).*");

    private final Openline bus = new Openline();
    private final Map<String, Integer> names = new HashMap<>();

    public static void main(String[] args) throws IOException {
        String readme = Files.readString(Path.of("README.md"));
        new ReadmeTest().exampleAnswers(readme);
        for (String call : Calls.NAMES) {
            Due.same("README.md names " + call, readme.contains("`" + call + "`"), true);
        }
        for (String file : new File("src/test/java").list()) {
            if (file.endsWith("Test.java")) {
                String test = file.replace(".java", "");
                Due.same("README.md names " + test, readme.contains("- `" + test + "`:"), true);
            }
        }
        Due.same("README.md tells how to run the tests", readme.contains("\n.ci/run\n"), true);
        Due.end("ReadmeTest");
    }

    private void exampleAnswers(String readme) {
        String example = readme.split("```java\n")[1].split("```")[0];
        int lines = 0;
        for (String line : example.split("\n")) {
            Matcher call = LINE.matcher(line);
            if (call.matches()) {
                lines++;
                String got = Calls.answer(bus, call.group(2), numbers(call.group(3)));
                Due.same("README.md: " + line, got, call.group(4).replace("\"", ""));
                if (call.group(1) != null) {
                    names.put(call.group(1), Integer.parseInt(got));
                }
            } else {
                Due.same("README.md, not a call: " + line, line, "Openline bus = new Openline();");
            }
        }
        Due.same("lines of the example", lines >= LEAST_LINES, true);
    }

    private int[] numbers(String given) {
        String[] words = given.isEmpty() ? new String[0] : given.split(", ");
        int[] numbers = new int[words.length];
        for (int i = 0; i < words.length; i++) {
            numbers[i] = number(words[i]);
        }
        return numbers;
    }

    private int number(String word) {
        if (word.equals("true") || word.equals("false")) {
            return word.equals("true") ? 1 : 0;
        }
        return names.containsKey(word) ? names.get(word) : Integer.parseInt(word);
    }
}
