import java.io.IOException;
import java.lang.reflect.Method;
import java.lang.reflect.Modifier;
import java.nio.file.Files;
import java.nio.file.Path;
import java.util.regex.Matcher;
import java.util.regex.Pattern;

/** README.md is run, line by line: each call in it answers the number that stands behind it. */
public final class ReadmeTest {
    private static final Pattern TEXT = Pattern.compile("String ground = \"(.*?)\";.*");
    private static final Pattern LENGTH = Pattern.compile("x\\.text\\(0, ground\\.length\\(\\)\\); +// (\\d+): .*");
    private static final Pattern CALL = Pattern.compile("x\\.(\\w+\\([-\\d, ]*\\)); +// (-?\\d+): .*");

    private static Probe x;
    private static String ground = "";

    public static void main(String[] args) throws IOException {
        Probe.says(0, "README.md");
        String readme = Files.readString(Path.of("README.md"));
        boolean inside = false;
        int calls = 0;
        for (String line : readme.split("\n")) {
            if (line.startsWith("```")) {
                inside = line.equals("```java");
            } else if (inside) {
                calls += run(line.trim());
            }
        }
        Probe.due("calls that are looked at, at least 30", calls >= 30 ? 1 : 0, 1);
        allAreNamed(readme);
        Probe.end();
    }

    /** Runs one line of code, and tells how many answers were looked at. */
    private static int run(String line) {
        Matcher text = TEXT.matcher(line);
        Matcher length = LENGTH.matcher(line);
        Matcher call = CALL.matcher(line);
        if (line.equals("HoleMoved x = new HoleMoved();")) {
            x = new Probe();
        } else if (text.matches()) {
            ground = text.group(1);
        } else if (length.matches()) {
            x.gives("text(0, " + ground.length() + ")", Long.parseLong(length.group(1)));
            return 1;
        } else if (line.equals("x.put(0, i, ground.charAt(i));")) {
            x.write(0, ground);
        } else if (call.matches()) {
            x.gives(call.group(1), Long.parseLong(call.group(2)));
            return 1;
        } else {
            boolean loop = line.equals("for (int i = 0; i < ground.length(); i++) {") || line.equals("}");
            Probe.due("a line that is understood: " + line, loop ? 1 : 0, 1);
        }
        return 0;
    }

    private static void allAreNamed(String readme) {
        for (Method m : HoleMoved.class.getDeclaredMethods()) {
            if (Modifier.isPublic(m.getModifiers())) {
                Probe.due(m.getName() + " stands in the list of calls", readme.contains("`" + m.getName() + "`") ? 1 : 0, 1);
            }
        }
        for (String word : "BAD FULL FINDING STATE SPENT NONE NOTHING BEYOND UNLIKE NOUGHT SIZE".split(" ")) {
            Probe.due(word + " is explained", readme.contains(word) ? 1 : 0, 1);
        }
    }
}
