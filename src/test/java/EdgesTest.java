import java.io.IOException;
import java.nio.file.Files;
import java.nio.file.Path;
import java.util.ArrayList;
import java.util.HashMap;
import java.util.List;
import java.util.Map;
import java.util.Set;
import java.util.stream.Stream;

/**
 * The runs under src/test/edges: the document's boundary cases, sentence by sentence. Every call that is refused, and
 * every one that only asks, is followed by all the questions there are, as long as there is room for these: it must
 * have changed nothing.
 */
public final class EdgesTest {
    private static final Due DUE = new Due("EdgesTest");
    private static final Set<String> ASKING = Set.of("about", "text", "shape", "words", "near", "atHand", "piece",
            "mark", "seen", "place", "witness", "lines", "page", "told");

    private final Map<String, List<Call>> blocks = new HashMap<>();
    private String title = "";
    private List<Call> run = new ArrayList<>();
    private JoinSetter x = new JoinSetter();
    private List<String> looked = null;
    private boolean inBlock = true;

    public static void main(String[] args) throws IOException {
        Titles titles = new Titles(Files.readString(Path.of("../shared/DOC.md")));
        List<Path> files;
        try (Stream<Path> all = Files.list(Path.of("src/test/edges"))) {
            files = all.sorted().toList();
        }
        for (Path file : files) {
            new EdgesTest().play(file);
            titles.look(file);
        }
        titles.end(DUE);
        DUE.end();
    }

    private void play(Path file) throws IOException {
        int number = 0;
        for (String line : Files.readAllLines(file)) {
            number++;
            try {
                read(line.trim());
            } catch (RuntimeException e) {
                DUE.is(file.getFileName() + ":" + number + ": " + e, 0, 1);
            }
        }
    }

    private void read(String line) {
        if (line.isEmpty() || line.startsWith("#")) {
            return;
        }
        if (line.startsWith("-- ") || line.startsWith("== ")) {
            title = line.substring(3).trim();
            inBlock = line.startsWith("-- ");
            run = new ArrayList<>();
            x = new JoinSetter();
            looked = null;
            if (inBlock && blocks.put(title, run) != null) {
                throw new IllegalArgumentException("a second block: " + title);
            }
        } else if (line.startsWith("use ")) {
            use(line.substring(4).trim());
        } else {
            calls(line);
        }
    }

    private void use(String block) {
        if (!blocks.containsKey(block)) {
            throw new IllegalArgumentException("no block: " + block);
        }
        for (Call call : blocks.get(block)) {
            make(call);
        }
    }

    /** 'call', or '3 * call' for three turns. */
    private void calls(String line) {
        int times = 1;
        String rest = line;
        if (Character.isDigit(line.charAt(0))) {
            int star = line.indexOf('*');
            times = Integer.parseInt(line.substring(0, star).trim());
            rest = line.substring(star + 1).trim();
        }
        for (int turn = 0; turn < times; turn++) {
            make(Call.read(rest, turn));
        }
    }

    private void make(Call call) {
        List<Call> before = new ArrayList<>(run);
        run.add(call);
        if (run.size() > Looks.MOST_CALLS) {
            throw new IllegalStateException("more than 512 calls: " + title);
        }
        int answer = call.on(x);
        String told = title + ": call " + run.size() + ", " + call.text;
        if (call.due == null) {
            DUE.is(told + ", is not refused", answer < 0 ? answer : 0, 0);
        } else {
            DUE.is(told, answer, call.due);
        }
        boolean noLine = call.name.equals("line") && answer == JoinSetter.NO;
        boolean refused = call.due != null && answer < 0 && !noLine;
        if (inBlock || run.size() > Looks.MOST_CALLS - Looks.MOST_ASKED) {
            looked = null;
        } else if (refused || ASKING.contains(call.name)) {
            changedNothing(told, before);
        } else {
            looked = null;
            if (noLine) {
                onlyTheLineIsGone(told, before);
            }
        }
    }

    private void changedNothing(String told, List<Call> before) {
        List<String> was = looked != null ? looked : Looks.after(before, true);
        looked = Looks.after(run, true);
        same(told, was, looked);
    }

    /** A line() without a way is the one refused call that leaves something behind. */
    private void onlyTheLineIsGone(String told, List<Call> before) {
        DUE.is(told + ": no line is at hand", x.atHand(0), JoinSetter.STATE);
        same(told, Looks.after(before, false), Looks.after(run, false));
    }

    private static void same(String told, List<String> was, List<String> now) {
        String first = "";
        for (int k = 0; k < Math.max(was.size(), now.size()) && first.isEmpty(); k++) {
            String a = k < was.size() ? was.get(k) : "nothing";
            String b = k < now.size() ? now.get(k) : "nothing";
            if (!a.equals(b)) {
                first = " (" + a + " before, " + b + " behind)";
            }
        }
        DUE.is(told + " changes nothing" + first, first.isEmpty() ? 0 : 1, 0);
    }
}
