import java.io.IOException;
import java.nio.file.Files;
import java.nio.file.Path;
import java.util.Arrays;

/** One part of the document: each of its sentences is to have tests, which quote it word for word. */
final class Sentences {
    private final String heading;
    private final String text;
    private final boolean[] quoted;

    Sentences(Path document, String heading) throws IOException {
        this.heading = heading;
        StringBuilder lines = new StringBuilder();
        boolean inside = false;
        for (String line : Files.readAllLines(document)) {
            if (line.startsWith("## ")) {
                inside = line.equals("## " + heading);
            } else if (inside && !line.startsWith("```")) {
                lines.append(line.replaceFirst("^`[^`]*`:", "")).append(' ');
            }
        }
        text = lines.toString().replaceAll("\\s+", " ").trim();
        quoted = new boolean[text.length()];
    }

    /** What the document says there, and the test that fails if it doesn't hold. */
    void say(String words, Runnable test) {
        int at = text.indexOf(words);
        Due.is("the document says under '" + heading + "': " + words, at >= 0, true);
        while (at >= 0) {
            Arrays.fill(quoted, at, at + words.length(), true);
            at = text.indexOf(words, at + 1);
        }
        int before = Due.asked();
        Due.about(heading + ", '" + words + "': ");
        test.run();
        Due.about("");
        Due.is("answers asked for '" + words + "'", Due.asked() > before, true);
    }

    void end() {
        StringBuilder left = new StringBuilder();
        for (int i = 0; i < quoted.length; i++) {
            left.append(quoted[i] ? ' ' : text.charAt(i));
        }
        String words = left.toString().replaceAll("\\s+", " ").trim();
        Due.is("there is text under '" + heading + "'", text.isEmpty(), false);
        Due.is("under '" + heading + "' no test stands for '" + words + "'", words.isEmpty(), true);
    }
}
