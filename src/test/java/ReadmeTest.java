import java.io.IOException;
import java.nio.file.Files;
import java.nio.file.Path;
import java.util.Set;
import java.util.TreeSet;
import java.util.regex.Matcher;
import java.util.regex.Pattern;

/** Makes the calls that README.md shows: each answers what stands behind it. */
public final class ReadmeTest {
    private static final Check CHECK = new Check("ReadmeTest");
    private static final Pattern CALL = Pattern.compile("x\\.(\\w+)\\((.*?)\\);\\s+// (-?\\d+)(:.*)?");

    public static void main(String[] args) throws IOException, ReflectiveOperationException {
        String page = Files.readString(Path.of("README.md"));
        Told x = new Told();
        for (String line : page.split("\n")) {
            Matcher call = CALL.matcher(line);
            if (line.endsWith("= new WokenByKettle();")) {
                x.begin();
            } else if (call.matches()) {
                CHECK.due(line, x.call(call.group(1), call.group(2)), Long.parseLong(call.group(3)));
            } else {
                CHECK.holds("a call with its answer: " + line, !line.startsWith("x."));
            }
        }
        namesAllCalls(page);
        namesAllTests(page);
        CHECK.end();
    }

    private static void namesAllCalls(String page) {
        Set<String> names = new TreeSet<>();
        for (var method : WokenByKettle.class.getMethods()) {
            if (method.getDeclaringClass() == WokenByKettle.class) {
                names.add(method.getName());
            }
        }
        for (String name : names) {
            CHECK.holds("README.md tells of " + name, page.contains("`" + name + "`"));
        }
    }

    private static void namesAllTests(String page) throws IOException {
        try (var files = Files.list(Path.of("src/test/java"))) {
            for (Path file : (Iterable<Path>) files::iterator) {
                String name = file.getFileName().toString().replace(".java", "");
                CHECK.holds("README.md tells of " + name, !name.endsWith("Test") || page.contains("`" + name + "`"));
            }
        }
    }
}
