import java.io.IOException;
import java.nio.file.Files;
import java.nio.file.Path;
import java.util.regex.Matcher;
import java.util.regex.Pattern;

/** The calls that README.md shows on one object answer what stands behind each of them. */
public final class ReadmeTest {
    private static final Pattern BLOCK =
        Pattern.compile("(?s)```java\\n(BlendCellar cellar = new BlendCellar\\(\\);\\n.*?)```");
    private static final Pattern CALL = Pattern.compile("cellar\\.(\\w+\\([-0-9, ]*\\)); +// (-?\\d+)\\b.*");

    private ReadmeTest() {
    }

    private static String runOf(String readme) {
        Matcher block = BLOCK.matcher(readme);
        if (!block.find()) {
            return "";
        }
        StringBuilder run = new StringBuilder();
        for (String line : block.group(1).split("\n")) {
            Matcher call = CALL.matcher(line);
            if (call.matches()) {
                run.append(call.group(1)).append('=').append(call.group(2)).append(';');
            } else if (line.startsWith("cellar.")) {
                return "";
            }
        }
        return run.toString();
    }

    public static void main(String[] args) throws IOException {
        String run = runOf(Files.readString(Path.of("README.md")));
        if (run.isEmpty()) {
            System.out.println("README.md shows no calls with their answers");
            System.exit(1);
        }
        Edges.tell("README.md", run);
        Edges.end(1, 0);
    }
}
