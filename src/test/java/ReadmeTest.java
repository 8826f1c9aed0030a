import java.io.IOException;
import java.nio.file.Files;
import java.nio.file.Path;
import java.util.Set;
import java.util.TreeSet;
import java.util.regex.Matcher;
import java.util.regex.Pattern;

/** The examples of README.md, one behind the other on one object, answer what stands behind them. */
public final class ReadmeTest {
    private static final Pattern CALL = Pattern.compile("door\\.(\\w+)\\(([^)]*)\\); +// (-?\\d+)(:.*)?");
    private static final Pattern TELL = Pattern.compile("tell\\(door, \"(.*)\"\\); +// (-?\\d+)(:.*)?");
    private static final Pattern TEXT = Pattern.compile("String text = \"(.*)\";");

    private final Check check = new Check("ReadmeTest");
    private final Set<String> shown = new TreeSet<>();
    private DoorIsHeld door = null;

    public static void main(String[] args) throws IOException {
        ReadmeTest test = new ReadmeTest();
        boolean inCode = false;
        for (String line : Files.readAllLines(Path.of("README.md"))) {
            if (line.startsWith("```")) {
                inCode = line.equals("```java");
            } else if (inCode) {
                test.example(line);
            }
        }
        test.check.holds("each call of the face has an example: " + test.shown, test.shown.equals(Step.METHODS.keySet()));
        test.check.end();
    }

    private void example(String line) {
        Matcher call = CALL.matcher(line);
        Matcher tell = TELL.matcher(line);
        Matcher text = TEXT.matcher(line);
        if (line.equals("DoorIsHeld door = new DoorIsHeld();")) {
            door = new DoorIsHeld();
        } else if (text.matches()) {
            for (char c : text.group(1).toCharArray()) {
                door.letter(c);
            }
        } else if (call.matches()) {
            Step step = Step.all(call.group(1) + "(" + call.group(2) + ")").get(0);
            check.due(line, step.on(door), Integer.parseInt(call.group(3)));
            shown.add(step.name());
        } else if (tell.matches()) {
            check.due(line, Check.tell(door, tell.group(1)), Integer.parseInt(tell.group(2)));
        } else if (line.contains("door.letter(text.charAt(i));")) {
            shown.add("letter");
        } else {
            check.holds("no example: " + line, line.startsWith("for (") || line.equals("}"));
        }
    }
}
