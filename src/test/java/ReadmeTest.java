import java.io.IOException;
import java.lang.reflect.Method;
import java.lang.reflect.Modifier;
import java.nio.file.Files;
import java.nio.file.Path;
import java.util.regex.Matcher;
import java.util.regex.Pattern;

/** README.md's example answers what it says, and README.md names every method of the class. */
public final class ReadmeTest {
    private static final Pattern EXAMPLE = Pattern.compile("```java\\n(.*?)```", Pattern.DOTALL);
    /** An answer is a number behind "//" with nothing or a colon behind it. */
    private static final Pattern LINE = Pattern.compile("m\\.(\\w+\\(.*?\\));(?: *// (-?\\d+)(?::.*|$))?.*");

    private static String calls(String example) {
        StringBuilder calls = new StringBuilder();
        for (String line : example.split("\\n")) {
            Matcher found = LINE.matcher(line);
            if (found.matches()) {
                calls.append(found.group(1)).append(found.group(2) == null ? "; " : " = " + found.group(2) + "; ");
            } else if (!line.isBlank() && !line.equals("BitSyntaxMatch m = new BitSyntaxMatch();")) {
                throw new IllegalArgumentException("no call: " + line);
            }
        }
        return calls.toString();
    }

    public static void main(String[] args) throws IOException {
        String text = Files.readString(Path.of("README.md"));
        Matcher example = EXAMPLE.matcher(text);
        Calls.sentence("README.md: How to use it");
        while (example.find()) {
            Calls.run(calls(example.group(1)));
        }
        for (Method method : BitSyntaxMatch.class.getDeclaredMethods()) {
            boolean isPublic = Modifier.isPublic(method.getModifiers());
            if (isPublic && !text.contains("`" + method.getName() + "(")) {
                Calls.report("README.md does not name " + method.getName());
            }
        }
        Calls.finish();
    }
}
