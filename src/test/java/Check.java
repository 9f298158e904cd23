import java.io.IOException;
import java.nio.charset.StandardCharsets;
import java.nio.file.Files;
import java.nio.file.Path;

/** Counts the answers that are not as due and ends the test with exit code 1 if there was one. */
final class Check {
    private static final Path DOCUMENT = Path.of("../shared/DOC.md");

    private final String name;
    private String sentence = "";
    private String document;
    private int asked;
    private int wrong;

    Check(String name) {
        this.name = name;
    }

    void due(String call, long got, long want) {
        asked++;
        if (got != want) {
            wrong++;
            if (wrong <= 40) {
                System.out.println(name + ": " + call + " answered " + got + ", due is " + want + sentence);
            }
        }
    }

    void holds(String what, boolean truth) {
        due(what, truth ? 1 : 0, 1);
    }

    /** The sentence that is asked for next, word by word as the document's promise (0: its Terms) has it. */
    void about(int promise, String words) throws IOException {
        sentence = " (" + (promise == 0 ? "Terms" : "Promise " + promise) + ": " + words + ")";
        String chapter = chapter(promise);
        // where the document is not at hand the answers are asked for all the same
        holds("the document says so", chapter.isEmpty() || chapter.contains(words));
    }

    private String chapter(int promise) throws IOException {
        if (document == null) {
            document = Files.exists(DOCUMENT) ? Files.readString(DOCUMENT, StandardCharsets.UTF_8) : "";
        }
        String head = promise == 0 ? "## Terms" : "## Promise " + promise + ":";
        int from = document.indexOf(head);
        int to = document.indexOf(promise == 0 ? "\n## Promise 1:" : "\n## ", Math.max(from, 0));
        return document.isEmpty() ? "" : document.substring(Math.max(from, 0), Math.max(to, from + 1));
    }

    int wrong() {
        return wrong;
    }

    void end() {
        System.out.println(name + ": " + asked + " answers, " + wrong + " not as due");
        if (wrong > 0 || asked == 0) {
            System.exit(1);
        }
    }
}
