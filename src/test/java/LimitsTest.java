import java.util.Random;

/**
 * Long texts, great numbers and wrong ones, 512 calls on each object: nothing is thrown, refused calls leave the
 * line at hand alone, and what is found agrees with itself. (The model is too slow for such texts.)
 */
public final class LimitsTest {
    private static final Due DUE = new Due("LimitsTest");
    private static final int RUNS = 400;

    private final Random random;
    private final JoinSetter x = new JoinSetter();
    private int calls = 0;

    private LimitsTest(long seed) {
        random = new Random(seed);
    }

    public static void main(String[] args) {
        for (int seed = 0; seed < RUNS; seed++) {
            LimitsTest run = new LimitsTest(seed);
            try {
                run.play();
            } catch (RuntimeException | StackOverflowError e) {
                DUE.is("run " + seed + " threw " + e, 0, 1);
                e.printStackTrace(System.out);
            }
        }
        dearest();
        allFull();
        DUE.end();
    }

    private int n(int most) {
        return random.nextInt(most + 1);
    }

    private int wild(int most) {
        switch (n(12)) {
            case 0:
                return random.nextInt();
            case 1:
                return new int[] {Integer.MIN_VALUE, Integer.MAX_VALUE, -1, most, most + 1}[n(4)];
            default:
                return random.nextInt(most);
        }
    }

    private void play() {
        boolean great = n(1) == 0;
        for (int k = 4 + n(great ? 50 : 8); k > 0; k--) {
            call(x.letter(new int[] {0, 0, 0, 0, 1, 2, 3, 4, 5, 6}[n(9)]));
        }
        for (int k = n(12); k > 0; k--) {
            int letters = x.told(0);
            call(x.ligature(wild(letters), wild(letters), n(1) == 0 ? -1 : wild(letters), n(2) == 0));
        }
        for (int k = 0; k < 4 * x.told(0) && calls < 250; k++) {
            float width = great ? 1 + n(100) : 1 + n(4);
            call(x.form(k / 4, k % 4, Float.floatToRawIntBits(width), n(great ? 100 : 6), n(great ? 100 : 4), n(5)));
        }
        for (int k = 0; k < 20; k++) {
            call(x.stretch(wild(Math.max(1, x.told(1))), n(12), n(50)));
        }
        int letters = Math.min(80, 20 + n(80));
        for (int k = 0; k < letters; k++) {
            call(x.type(random.nextInt(x.told(0))));
        }
        while (calls < 505) {
            any();
        }
    }

    private int call(int answer) {
        calls++;
        return answer;
    }

    private void any() {
        int words = Math.max(1, x.words());
        switch (n(13)) {
            case 0 -> call(x.insert(wild(80), wild(x.told(0))));
            case 1 -> call(x.remove(wild(Math.max(1, x.told(3)))));
            case 2 -> call(x.undo());
            case 3 -> call(x.bar(wild(x.told(0)), n(1) == 0));
            case 4 -> call(x.point(wild(Math.max(1, x.told(1))), wild(100)));
            case 5, 6 -> line(wild(words), wild(words));
            case 7 -> plain(wild(words), wild(words));
            case 8, 9 -> paragraph();
            case 10 -> ask();
            case 11 -> claims(wild(words), wild(words));
            case 12 -> call(x.form(wild(x.told(0)), wild(4), random.nextInt(), wild(100), wild(100), wild(1000)));
            default -> call(x.ligature(wild(x.told(0)), wild(x.told(0)), wild(x.told(0)), n(1) == 0));
        }
    }

    private void ask() {
        int what = wild(10);
        int k = wild(100);
        call(x.shape(k, what));
        call(x.text(k));
        call(x.piece(k, what));
        call(x.mark(k, what));
        call(x.seen(k));
        call(x.place(k));
        call(x.witness(k));
        call(x.lines(k, what));
        call(x.page(k, what));
        call(x.about(k, what));
        call(x.told(what));
        call(x.atHand(what));
        call(x.near(what));
    }

    private void line(int i, int j) {
        int width = wild(300);
        int price = call(x.line(i, j, width));
        if (price == JoinSetter.NO) {
            DUE.is("none at hand", call(x.atHand(0)), -3);
            width = call(x.near(n(1)));
            if (width < 0) {
                return;
            }
            price = call(x.line(i, j, width));
            DUE.is("what is near can be filled", price >= 0 ? 1 : 0, 1);
        }
        if (price >= 0) {
            DUE.is("width", x.atHand(1), width);
            DUE.is("price", x.atHand(2), price);
            agrees(i, j);
        }
    }

    private void plain(int i, int j) {
        int width = call(x.plain(i, j));
        if (width >= 0) {
            DUE.is("width", x.atHand(1), width);
            agrees(i, j);
        }
    }

    /** The witness passes its check; letters and marks stand as they must. */
    private void agrees(int i, int j) {
        int pieces = x.atHand(0);
        int price = x.atHand(2);
        x.drop();
        for (int k = 0; k < 3 * pieces + 2; k++) {
            x.claim(x.witness(k));
        }
        DUE.is("its witness is one", x.check(i, j), 1);
        DUE.is("pieces", x.atHand(0), pieces);
        DUE.is("price", x.atHand(2), price);
        int end = 0;
        for (int k = 0; k < pieces; k++) {
            DUE.is("x of piece " + k, x.piece(k, 5), end);
            end += x.about(x.piece(k, 3), 2) + x.piece(k, 4);
        }
        DUE.is("width", x.atHand(1), end);
        int letters = x.atHand(7);
        for (int k = 0; k < letters; k++) {
            DUE.is("seen and place", x.place(x.seen(k)), k);
        }
        for (int k = 0; k < x.atHand(3); k++) {
            DUE.is("a mark fits in the line's height", x.mark(k, 4) <= x.atHand(4) ? 1 : 0, 1);
            DUE.is("a mark fits in the line's depth", -x.mark(k, 3) <= x.atHand(5) ? 1 : 0, 1);
        }
    }

    private void paragraph() {
        int width = wild(300);
        int price = call(x.best(width));
        if (price < 0) {
            return;
        }
        int lines = x.lines(-1, 0);
        int sum = 0;
        int word = 0;
        for (int k = 0; k < lines; k++) {
            sum += x.lines(k, 2);
            DUE.is("first word", x.lines(k, 0), word);
            word += x.lines(k, 1);
            int taken = x.take(k);
            DUE.is("height", x.atHand(4), x.lines(k, 3));
            DUE.is("depth", x.atHand(5), x.lines(k, 4));
            if (k < lines - 1) {
                DUE.is("width", taken, width);
                DUE.is("price", x.line(x.lines(k, 0), word - 1, width), x.lines(k, 2));
            }
        }
        DUE.is("words", word, x.words());
        DUE.is("prices", sum, price);
        pages();
    }

    private void pages() {
        int height = wild(2000);
        int price = call(x.pages(height));
        if (price < 0) {
            return;
        }
        int sum = 0;
        int line = 0;
        int pages = x.page(-1, 0);
        for (int k = 0; k < pages; k++) {
            int left = height;
            DUE.is("first line", x.page(k, 0), line);
            for (int l = 0; l < x.page(k, 1); l++) {
                left -= x.lines(line, 3) + x.lines(line, 4);
                line++;
            }
            DUE.is("left", x.page(k, 2), left);
            sum += k == pages - 1 ? 0 : left * left;
        }
        DUE.is("lines", line, x.lines(-1, 0));
        DUE.is("price of pages", sum, price);
    }

    private void claims(int i, int j) {
        for (int k = n(9); k > 0; k--) {
            call(x.claim(wild(4)));
        }
        call(x.check(i, j));
        if (n(3) == 0) {
            call(x.drop());
        }
    }

    /** Every letter stretches, has three forms and ligatures, and is barred: no call takes long. */
    private static void dearest() {
        JoinSetter x = new JoinSetter();
        x.letter(0);
        x.letter(6);
        x.ligature(0, 0, -1, false);
        x.ligature(0, 0, 0, false);
        for (int k = 0; k < 48; k++) {
            int form = x.form(k / 12, k / 3 % 4, Float.floatToRawIntBits(1 + k % 3), 1, 1, k % 5);
            x.stretch(form, 12, 1 + k % 2);
        }
        for (int k = 0; k < 80; k++) {
            x.type(k % 6 == 5 ? 1 : 0);
        }
        x.bar(0, true);
        DUE.is("words", x.words(), 14);
        for (int width = 1; width <= 300; width += 10) {
            x.best(width);
            x.line(0, 13, width);
        }
        DUE.is("a line goes", x.line(0, 13, 200) >= 0 ? 1 : 0, 1);
        DUE.is("a paragraph goes", x.best(50) >= 0 ? 1 : 0, 1);
    }

    /** 60 letters with 8 ligatures, 200 forms, 80 letters of text, 260 numbers. */
    private static void allFull() {
        JoinSetter x = new JoinSetter();
        for (int k = 0; k < 51; k++) {
            x.letter(0);
        }
        x.letter(6);
        for (int k = 0; k < 8; k++) {
            DUE.is("ligature " + k, x.ligature(k, k + 1, -1, k % 2 == 0), 52 + k);
        }
        for (int k = 0; k < 200; k++) {
            int letter = k == 0 ? 51 : k < 37 ? 52 + (k - 1) / 4 % 8 : (k - 37) / 4;
            int place = k == 0 ? 0 : (k - 1) % 4;
            x.form(letter, place, Float.floatToRawIntBits(1 + k % 3), k % 7, k % 5, k % 3);
        }
        DUE.is("letters", x.told(0), 60);
        DUE.is("forms", x.told(1), 200);
        for (int k = 0; k < 80; k++) {
            x.type(k % 8 == 7 ? 51 : k % 30);
        }
        for (int k = 0; k < 260; k++) {
            x.claim(k);
        }
        DUE.is("words", x.words(), 10);
        int width = x.plain(0, 9);
        DUE.is("plain", width > 0 ? 1 : 0, 1);
        DUE.is("a line", x.line(0, 9, width) >= 0 ? 1 : 0, 1);
        DUE.is("a paragraph", x.best(width), 0);
        DUE.is("too much is claimed", x.check(0, 9), -100);
    }
}
