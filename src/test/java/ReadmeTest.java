import java.io.IOException;
import java.net.URL;
import java.net.URLClassLoader;
import java.nio.file.Files;
import java.nio.file.Path;
import java.util.regex.Matcher;
import java.util.regex.Pattern;
import javax.tools.ToolProvider;

/** The example of README.md is compiled and run as it stands there: each call with the answer written beside it. */
public final class ReadmeTest extends TestBase {
    private static final Pattern BLOCK = Pattern.compile("```java\n(.*?)```", Pattern.DOTALL);
    private static final Pattern ANSWER = Pattern.compile("(core\\..*\\)); *// -> (\\S+).*");

    private static int answers = 0;

    /** The example as a class whose method tells what was answered and what README.md says, call by call. */
    private static String asClass(String example) {
        StringBuilder code = new StringBuilder("public class Example {\n    public static String story() {\n");
        code.append("String got = \"\";\n");
        for (String line : example.split("\n")) {
            Matcher matcher = ANSWER.matcher(line);
            if (matcher.matches()) {
                answers++;
                String call = matcher.group(1);
                String said = matcher.group(2);
                code.append(String.format("got += \"%s\\t\" + %s + \"\\t\" + %s + \"\\n\";\n", call, call, said));
            } else {
                code.append(line).append('\n');
            }
        }
        return code.append("return got;\n    }\n}\n").toString();
    }

    private static String storyOf(String source) throws IOException, ReflectiveOperationException {
        Path place = Files.createTempDirectory("readme");
        Path file = place.resolve("Example.java");
        Path classFile = place.resolve("Example.class");
        try {
            Files.writeString(file, source);
            int code = ToolProvider.getSystemJavaCompiler().run(null, null, null,
                "-cp", System.getProperty("java.class.path"), "-d", place.toString(), file.toString());
            due("the example compiles", code, 0);
            try (URLClassLoader loader = new URLClassLoader(new URL[] {place.toUri().toURL()})) {
                return code == 0 ? (String) loader.loadClass("Example").getMethod("story").invoke(null) : "";
            }
        } finally {
            Files.deleteIfExists(classFile);
            Files.deleteIfExists(file);
            Files.deleteIfExists(place);
        }
    }

    public static void main(String[] args) throws IOException, ReflectiveOperationException {
        Matcher block = BLOCK.matcher(Files.readString(Path.of("README.md")));
        String story = storyOf(asClass(block.find() ? block.group(1) : ""));
        due("README.md has an example with answers", answers > 0, true);
        story.lines().map(line -> line.split("\t")).forEach(parts -> due(parts[0], parts[1], parts[2]));
        end();
    }
}
