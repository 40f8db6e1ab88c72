import java.util.ArrayList;
import java.util.List;

/**
 * All that can be asked of the object that a run of calls has made. As an object is used for 512 calls at most, the
 * run is made anew for every hundred questions or so.
 */
final class Looks {
    static final int MOST_CALLS = 512;
    /** So many calls on one object are asked at the most: 41 times undo() with what it brings. */
    static final int MOST_ASKED = 90;

    private final List<Call> run;
    private JoinSetter x;
    private int left = 0;
    private final List<String> answers = new ArrayList<>();

    private Looks(List<Call> run) {
        this.run = run;
    }

    /** What is told after the run; without the line at hand and near(), if these are not to be asked. */
    static List<String> after(List<Call> run, boolean withLine) {
        Looks looks = new Looks(run);
        looks.script();
        looks.typed();
        if (withLine) {
            looks.lineAtHand();
            looks.ask("near(0)");
            looks.ask("near(1)");
        }
        looks.paragraph();
        looks.edits();
        looks.claims();
        looks.fillings();
        return looks.answers;
    }

    private void anew() {
        x = new JoinSetter();
        for (Call call : run) {
            call.on(x);
        }
        left = MOST_CALLS - run.size();
    }

    /** So many calls on one and the same object come next. */
    private void room(int calls) {
        if (left < calls) {
            anew();
        }
    }

    private int ask(String question) {
        if (left < 1) {
            anew();
        }
        left--;
        int answer = Call.read(question, 0).on(x);
        answers.add(question + " = " + answer);
        return answer;
    }

    private void askAll(String name, int count, int whats) {
        for (int k = 0; k < count; k++) {
            for (int what = 0; what < whats; what++) {
                ask(name + "(" + k + ", " + what + ")");
            }
        }
    }

    private void askEach(String name, int count) {
        for (int k = 0; k < count; k++) {
            ask(name + "(" + k + ")");
        }
    }

    private void script() {
        askEach("told", 6);
        askAll("about", ask("told(1)"), 9);
    }

    private void typed() {
        int letters = ask("told(3)");
        askEach("text", letters + 1);
        askAll("shape", letters, 5);
        ask("words()");
    }

    private void lineAtHand() {
        askEach("atHand", 8);
        int pieces = ask("atHand(0)");
        askAll("piece", Math.max(pieces, 0), 6);
        askAll("mark", Math.max(ask("atHand(3)"), 0), 6);
        askEach("seen", Math.max(ask("atHand(7)"), 0) + 1);
        askEach("place", ask("told(3)"));
        askEach("witness", Math.max(3 * pieces + 3, 0));
    }

    private void paragraph() {
        int lines = ask("lines(-1, 0)");
        askAll("lines", Math.max(lines, 0), 5);
        askAll("page", Math.max(ask("page(-1, 0)"), 0), 3);
        for (int k = 0; k < lines; k++) {
            room(5);
            ask("take(" + k + ")");
            ask("atHand(0)");
            ask("atHand(1)");
            ask("atHand(2)");
            ask("atHand(6)");
        }
        ask("pages(40)");
        ask("page(-1, 0)");
    }

    /** Whether letters are barred, and the edits in the order in which they are undone; both change things. */
    private void edits() {
        int letters = ask("told(0)");
        anew();
        for (int k = 0; k < letters; k++) {
            ask("bar(" + k + ", false)");
        }
        int edits = ask("told(4)");
        anew();
        for (int k = 0; k <= edits; k++) {
            ask("undo()");
            ask("text(0)");
        }
        anew();
    }

    private void claims() {
        int words = ask("words()");
        room(3);
        if (ask("check(0, " + (words - 1) + ")") == 1) {
            ask("atHand(1)");
        }
        ask("drop()");
        anew();
    }

    /** The first widths to which all words can be filled, with their prices. */
    private void fillings() {
        int last = ask("words()") - 1;
        room(36);
        int width = 0;
        for (int k = 0; k < 9 && width >= 0; k++) {
            ask("line(0, " + last + ", " + width + ")");
            ask("witness(0)");
            ask("witness(1)");
            width = ask("near(1)");
        }
    }
}
