import java.io.IOException;
import java.nio.file.Files;
import java.nio.file.Path;
import java.util.regex.Matcher;
import java.util.regex.Pattern;

/** The example of README.md answers what its comments say, and every call of the face is told there. */
public final class ReadmeTest {
    private static final Pattern TOLD = Pattern.compile("\"([^\"]+)\"\\.toCharArray\\(\\)");
    private static final Pattern ANSWERED = Pattern.compile("well\\.(\\w+\\([^)]*\\)); +// (-?\\d+)\\b.*");
    private static final Check check = new Check();

    public static void main(String[] args) throws IOException {
        String readme = Files.readString(Path.of("README.md"));
        String example = readme.substring(readme.indexOf("```java"), readme.indexOf("```", readme.indexOf("```java") + 3));
        WellOfTheSilent well = new WellOfTheSilent();
        int answers = 0;
        for (String line : example.split("\n")) {
            Matcher told = TOLD.matcher(line);
            if (told.find()) {
                told.group(1).chars().forEach(well::letter);
            }
            Matcher answered = ANSWERED.matcher(line);
            if (answered.matches()) {
                answers++;
                check.due(answered.group(1), Edges.answerOf(well, answered.group(1)), Long.parseLong(answered.group(2)));
            }
        }
        check.due("answers in the example", answers, 9);
        for (var method : WellOfTheSilent.class.getDeclaredMethods()) {
            boolean isOpen = java.lang.reflect.Modifier.isPublic(method.getModifiers());
            check.holds(method.getName() + " is told", !isOpen || readme.contains("`" + method.getName() + "("));
        }
        check.end();
    }
}
