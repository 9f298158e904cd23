import java.io.IOException;
import java.nio.file.Files;
import java.nio.file.Path;

/** Runs whose answers were given by a model written anew from the document; a line is a call and its answer. */
public final class SecondReadingTest {
    private static final Check CHECK = new Check("SecondReadingTest");
    private static final Path RUNS = Path.of("src/test/runs/second-reading.txt");

    public static void main(String[] args) throws IOException, ReflectiveOperationException {
        Told x = new Told();
        int number = 0;
        for (String line : Files.readAllLines(RUNS)) {
            number++;
            int equals = line.indexOf(" = ");
            if (equals < 0) {
                CHECK.holds("line " + number + " begins a run: " + line, line.equals("new"));
                x.begin();
                continue;
            }
            String call = line.substring(0, equals);
            int blank = (call + " ").indexOf(' ');
            long due = Long.parseLong(line.substring(equals + 3));
            CHECK.due("line " + number + ": " + call, x.call(call.substring(0, blank), call.substring(blank)), due);
        }
        CHECK.end();
    }
}
