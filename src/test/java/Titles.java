import java.io.IOException;
import java.nio.file.Files;
import java.nio.file.Path;
import java.util.ArrayList;
import java.util.List;
import java.util.Set;
import java.util.TreeSet;
import java.util.regex.Matcher;
import java.util.regex.Pattern;

/** The titles of the runs under src/test/edges: what they quote stands in the document, and no promise lacks one. */
final class Titles {
    private static final int PROMISES = 33;
    private static final Pattern QUOTE = Pattern.compile("\"([^\"]*)\"");
    private static final Pattern PROMISE = Pattern.compile("(?<![\\w.])(\\d+):");

    private final String document;
    private final Set<Integer> promises = new TreeSet<>();
    private final List<String> wrong = new ArrayList<>();

    Titles(String document) {
        this.document = document.replaceAll("\\s+", " ");
    }

    void look(Path file) throws IOException {
        for (String line : Files.readAllLines(file)) {
            if (line.startsWith("== ")) {
                quotes(line);
                Matcher m = PROMISE.matcher(line);
                while (m.find()) {
                    promises.add(Integer.parseInt(m.group(1)));
                }
            }
        }
    }

    /** '..' in a quote stands for words that are left out. */
    private void quotes(String title) {
        Matcher m = QUOTE.matcher(title);
        while (m.find()) {
            for (String part : m.group(1).split("\\s*\\.\\.\\s*")) {
                if (!document.contains(part)) {
                    wrong.add(part);
                }
            }
        }
    }

    void end(Due due) {
        for (String part : wrong) {
            due.is("the document does not say: " + part, 0, 1);
        }
        for (int promise = 1; promise <= PROMISES; promise++) {
            due.is("runs for promise " + promise, promises.contains(promise) ? 1 : 0, 1);
        }
    }
}
