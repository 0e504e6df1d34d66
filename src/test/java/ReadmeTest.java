import java.io.IOException;
import java.lang.reflect.Method;
import java.lang.reflect.Modifier;
import java.nio.file.Files;
import java.nio.file.Path;
import java.util.regex.Matcher;
import java.util.regex.Pattern;

/** Asks what README.md shows, line by line: what stands first behind // is the answer that is due. */
public final class ReadmeTest {
    private static final Pattern FEED = Pattern.compile("feed\\(x, \"(.*)\"\\);");
    private static final Pattern CALL = Pattern.compile("x\\.(\\w+)\\(([^)]*)\\); +// (-?\\d+|true|false)\\b.*");

    private static final Checks CHECKS = new Checks("ReadmeTest");

    private static Method called(String name) {
        for (Method m : LikeYears.class.getDeclaredMethods()) {
            if (m.getName().equals(name) && Modifier.isPublic(m.getModifiers())) {
                return m;
            }
        }
        throw new IllegalStateException(name);
    }

    private static Object argument(String text) {
        return text.equals("true") || text.equals("false") ? (Object) Boolean.valueOf(text) : Integer.valueOf(text);
    }

    private static String answer(LikeYears x, String name, String arguments) throws ReflectiveOperationException {
        String[] texts = arguments.isEmpty() ? new String[0] : arguments.split(", ");
        Object[] values = new Object[texts.length];
        for (int i = 0; i < texts.length; i++) {
            values[i] = argument(texts[i]);
        }
        return String.valueOf(called(name).invoke(x, values));
    }

    /** The example: from the line that makes an object to the end of its block. */
    private static int example(String[] lines) throws ReflectiveOperationException {
        LikeYears x = null;
        int calls = 0;
        for (String line : lines) {
            if (line.equals("LikeYears x = new LikeYears();")) {
                x = new LikeYears();
            } else if (x != null && line.equals("```")) {
                return calls;
            } else if (x != null && !line.isEmpty()) {
                calls += exampleLine(x, line);
            }
        }
        return 0;
    }

    private static int exampleLine(LikeYears x, String line) throws ReflectiveOperationException {
        Matcher feed = FEED.matcher(line);
        if (feed.matches()) {
            Texts.feed(x, feed.group(1));
            return 0;
        }
        Matcher call = CALL.matcher(line);
        if (!call.matches()) {
            CHECKS.tell("neither a text nor a call with its answer: " + line);
            return 0;
        }
        String got = answer(x, call.group(1), call.group(2));
        CHECKS.yes(line + " answered " + got, got.equals(call.group(3)));
        return 1;
    }

    public static void main(String[] args) throws IOException, ReflectiveOperationException {
        String readme = Files.readString(Path.of("README.md"));
        CHECKS.yes("the example has calls", example(readme.split("\n")) > 20);
        for (Method m : LikeYears.class.getDeclaredMethods()) {
            if (Modifier.isPublic(m.getModifiers())) {
                CHECKS.yes("README.md names " + m.getName(), readme.contains("`" + m.getName() + "`"));
            }
        }
        for (String file : Path.of("src/test/java").toFile().list()) {
            String name = file.replace(".java", "");
            if (name.endsWith("Test")) {
                CHECKS.yes("README.md names " + name, readme.contains("`" + name + "`"));
            }
        }
        CHECKS.finish();
    }
}
