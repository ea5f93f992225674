import java.io.ByteArrayOutputStream;
import java.io.IOException;
import java.io.PrintStream;
import java.lang.reflect.Method;
import java.nio.charset.StandardCharsets;
import java.nio.file.Files;
import java.nio.file.Path;
import java.util.ArrayList;
import java.util.List;
import java.util.regex.Matcher;
import java.util.regex.Pattern;

/** README.md shows Example.java as it stands, its answers are those told there, and every call is named. */
public final class ReadmeTest {
    private static final Check C = new Check("ReadmeTest");
    private static final Pattern TOLD = Pattern.compile("print\\(.*\\); +// (-?\\d+):.*");

    public static void main(String[] args) throws IOException {
        String readme = Files.readString(Path.of("README.md"));
        List<String> example = Files.readAllLines(Path.of("src/test/java/Example.java"));
        C.due("the example is shown as it is", readme.contains("```java\n" + String.join("\n", example) + "\n```"), true);
        List<Integer> told = new ArrayList<>();
        for (String line : example) {
            Matcher m = TOLD.matcher(line.trim());
            if (m.matches()) {
                told.add(Integer.parseInt(m.group(1)));
            }
        }
        C.due("answers told", told.size() > 10, true);
        List<Integer> got = printed();
        C.due("answers printed", got.size(), told.size());
        for (int i = 0; i < Math.min(got.size(), told.size()); i++) {
            C.due("answer " + i + " of the example", got.get(i), told.get(i));
        }
        for (Method m : BackVillage.class.getMethods()) {
            if (m.getDeclaringClass() == BackVillage.class) {
                C.due("named: " + m.getName(), Pattern.compile("`" + m.getName() + "[`(]").matcher(readme).find(), true);
            }
        }
        C.due("how to run the tests", readme.contains(".ci/run"), true);
        C.finish();
    }

    private static List<Integer> printed() {
        PrintStream before = System.out;
        ByteArrayOutputStream bytes = new ByteArrayOutputStream();
        System.setOut(new PrintStream(bytes, true, StandardCharsets.UTF_8));
        Example.main(new String[0]);
        System.setOut(before);
        List<Integer> got = new ArrayList<>();
        for (String line : bytes.toString(StandardCharsets.UTF_8).split("\\R")) {
            got.add(Integer.parseInt(line));
        }
        return got;
    }
}
