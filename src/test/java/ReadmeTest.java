import java.io.IOException;
import java.lang.reflect.InvocationTargetException;
import java.lang.reflect.Method;
import java.nio.file.Files;
import java.nio.file.Path;
import java.util.ArrayList;
import java.util.List;
import java.util.regex.Matcher;
import java.util.regex.Pattern;

/** The examples of README.md: each call answers what stands behind it there. */
final class ReadmeTest {
    private static final Check CHECK = new Check();
    private static final String NEW = "TerraceRain valley = new TerraceRain();";
    private static final Pattern FED = Pattern.compile("feed\\(valley, \"([^\"]*)\"\\);");
    private static final Pattern CALL = Pattern.compile("valley\\.(\\w+)\\(([-0-9, ]*)\\); +// ([^:]+): .+");

    private static TerraceRain valley;
    private static int calls;

    public static void main(String[] args) throws IOException {
        for (String block : blocks(Files.readString(Path.of("README.md")))) {
            if (block.startsWith("static")) {
                String check = Files.readString(Path.of("src/test/java/Check.java"));
                CHECK.same("the feed of README.md is that of Check", joined(check).contains(joined(block)), true);
            } else {
                doLines(block);
            }
        }
        CHECK.same("README.md has examples", calls > 20, true);
        CHECK.end();
    }

    private static List<String> blocks(String page) {
        List<String> all = new ArrayList<>();
        String[] parts = page.split("```java\n");
        for (int i = 1; i < parts.length; i++) {
            all.add(parts[i].substring(0, parts[i].indexOf("```")));
        }
        return all;
    }

    private static String joined(String lines) {
        return lines.replaceAll("\\s+", " ").trim();
    }

    private static void doLines(String block) {
        for (String line : block.split("\n")) {
            Matcher fed = FED.matcher(line);
            Matcher call = CALL.matcher(line);
            if (line.startsWith(NEW)) {
                valley = new TerraceRain();
            } else if (fed.matches()) {
                Check.feed(valley, fed.group(1));
            } else if (call.matches()) {
                calls++;
                CHECK.same("README.md: " + line, answer(call.group(1), call.group(2)), call.group(3));
            } else {
                CHECK.same("README.md: " + line, "is no call with its answer", "one");
            }
        }
    }

    private static String answer(String name, String arguments) {
        String[] texts = arguments.isEmpty() ? new String[0] : arguments.split(", ");
        Object[] numbers = new Object[texts.length];
        Class<?>[] types = new Class<?>[texts.length];
        for (int i = 0; i < texts.length; i++) {
            numbers[i] = Integer.valueOf(texts[i]);
            types[i] = int.class;
        }
        try {
            Method method = TerraceRain.class.getMethod(name, types);
            return String.valueOf(method.invoke(valley, numbers));
        } catch (InvocationTargetException e) {
            return "throws " + e.getCause().getClass().getSimpleName();
        } catch (ReflectiveOperationException e) {
            return "there is no such call";
        }
    }
}
