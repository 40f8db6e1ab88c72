import java.util.ArrayList;
import java.util.List;
import java.util.Random;
import java.util.function.IntSupplier;

/** Random runs, always the same ones, in which the class and the model must answer alike. */
public final class ModelTest {
    private static final int RUNS = 9000;
    private static final int CALLS = 100;
    /** What a run looks for: anything, ligatures in lines, paragraphs of short words, many marks. */
    private static final int WILD = 0, LIGATURES = 1, PARAGRAPHS = 2, MARKS = 3;

    private final Random random;
    private final JoinSetter real = new JoinSetter();
    private final Model model = new Model();
    private final List<String> told = new ArrayList<>();
    private boolean wrong = false;
    private final int wildness;
    private final int aim;
    private final int longest;

    private ModelTest(long seed) {
        random = new Random(seed);
        wildness = 4 + random.nextInt(60);
        aim = random.nextInt(4);
        longest = aim == PARAGRAPHS ? 20 : 10;
    }

    public static void main(String[] args) {
        int wrongRuns = 0;
        long calls = 0;
        for (int seed = 0; seed < RUNS; seed++) {
            ModelTest run = new ModelTest(seed);
            run.play(seed);
            calls += run.told.size();
            if (run.wrong) {
                wrongRuns++;
                System.out.println("run of seed " + seed + ":");
                for (String call : run.told) {
                    System.out.println("  " + call);
                }
                if (wrongRuns == 3) {
                    break;
                }
            }
        }
        System.out.println("ModelTest: " + calls + " answers, " + wrongRuns + " runs not as due");
        if (wrongRuns != 0) {
            System.exit(1);
        }
    }

    private void play(int seed) {
        script();
        int letters = aim == PARAGRAPHS ? 6 + n(14) : 3 + n(6);
        for (int k = 0; k < letters && !wrong; k++) {
            typeOne();
        }
        for (int k = 0; k < CALLS && !wrong; k++) {
            any();
        }
    }

    private void same(String call, int got, int want) {
        told.add(call + " answered " + got + (got == want ? "" : ", due is " + want));
        if (got != want) {
            wrong = true;
        }
    }

    /** Asks the model first: what is too much for it is not asked at all. */
    private void sameIfFew(String call, IntSupplier ofReal, IntSupplier ofModel) {
        int want;
        try {
            want = ofModel.getAsInt();
        } catch (Model.TooMany e) {
            return;
        }
        same(call, ofReal.getAsInt(), want);
    }

    private int n(int most) {
        return random.nextInt(most + 1);
    }

    /** A number of 0 to most - 1, now and then a wrong one. */
    private int pick(int most) {
        if (random.nextInt(wildness) == 0) {
            int[] odd = {-1, most, -2, most + 1, Integer.MIN_VALUE, Integer.MAX_VALUE};
            return odd[random.nextInt(odd.length)];
        }
        return most <= 0 ? 0 : random.nextInt(most);
    }

    private void script() {
        int[][] sorts = {{0, 0, 0, 1, 2, 3, 4, 5, 6, 6}, {0, 0, 0, 0, 0, 1, 1, 3, 4, 6},
            {0, 0, 1, 2, 3, 3, 4, 5, 6, 6}, {0, 0, 1, 2, 3, 3, 3, 4, 4, 6}};
        if (aim != WILD) {
            letter(0);
            letter(aim == LIGATURES ? n(1) : 6);
        }
        int count = aim == WILD ? 3 + n(4) : 1 + n(3);
        for (int k = 0; k < count; k++) {
            letter(sorts[aim][n(9)]);
        }
        int ligatures = aim == LIGATURES ? 3 + n(4) : n(2);
        for (int k = 0; k < ligatures; k++) {
            ligature();
        }
        boolean sparing = aim == PARAGRAPHS || random.nextInt(3) == 0;
        boolean lacking = n(5) == 0;
        for (int l = 0; l < model.sorts.size(); l++) {
            for (int place = 0; place < 4; place++) {
                int forms = sparing ? 1 : 1 + n(1) * n(1) + n(1) * n(1) * n(1);
                for (int k = 0; k < forms && !(lacking && n(7) == 0); k++) {
                    form(l, place);
                }
            }
        }
        for (int k = n(8); k > 0; k--) {
            stretch();
        }
        for (int k = n(4); k > 0; k--) {
            point();
        }
        if (n(2) == 0) {
            bar();
        }
    }

    private void letter(int sort) {
        same("letter(" + sort + ")", real.letter(sort), model.letter(sort));
    }

    private void ligature() {
        int x = joining();
        int y = joining();
        int z = n(1) == 0 ? -1 : joining();
        boolean must = n(3) == 0;
        same("ligature(" + x + ", " + y + ", " + z + ", " + must + ")", real.ligature(x, y, z, must),
                model.ligature(x, y, z, must));
    }

    private int joining() {
        for (int k = 0; k < 4; k++) {
            int letter = random.nextInt(model.sorts.size());
            if (model.sorts.get(letter) == 0) {
                return letter;
            }
        }
        return pick(model.sorts.size());
    }

    private int bits() {
        if (random.nextInt(wildness) == 0) {
            float[] odd = {0f, 0.5f, 0.49999997f, 0.50000006f, 1.5f, 2.5f, 3.5f, 99.5f, 100.5f, 100.50001f, 101f, -1f,
                -0f, Float.NaN, Float.POSITIVE_INFINITY, Float.NEGATIVE_INFINITY, Float.MIN_VALUE, 1e30f, 127.9f, 128f};
            return n(3) == 0 ? random.nextInt() : Float.floatToRawIntBits(odd[random.nextInt(odd.length)]);
        }
        return Float.floatToRawIntBits(n(3) == 0 ? 0.51f + random.nextFloat() * 6 : 1 + n(5));
    }

    private void form(int letter, int place) {
        int width = aim == MARKS && n(1) == 0 ? Float.floatToRawIntBits(1 + n(12)) : bits();
        int height = random.nextInt(wildness) == 0 ? pick(101) : n(6);
        int depth = random.nextInt(wildness) == 0 ? pick(101) : n(4);
        int price = random.nextInt(wildness) == 0 ? pick(1001) : n(3);
        same("form(" + letter + ", " + place + ", " + width + ", " + height + ", " + depth + ", " + price + ")",
                real.form(letter, place, width, height, depth, price),
                model.form(letter, place, width, height, depth, price));
    }

    private void stretch() {
        int form = pick(model.forms.size());
        int most = n(9) == 0 ? pick(13) : n(3);
        int factor = n(9) == 0 ? pick(51) : n(3);
        if (aim == PARAGRAPHS && n(1) == 0) {
            form = blankForm(form);
            most = n(8);
        }
        same("stretch(" + form + ", " + most + ", " + factor + ")", real.stretch(form, most, factor),
                model.stretch(form, most, factor));
    }

    private int blankForm(int other) {
        for (int f = 0; f < model.forms.size(); f++) {
            if (model.sorts.get(model.forms.get(f)[0]) == 6) {
                return f;
            }
        }
        return other;
    }

    private void point() {
        int form = pick(model.forms.size());
        int x = pick(6);
        same("point(" + form + ", " + x + ")", real.point(form, x), model.point(form, x));
    }

    private void bar() {
        int letter = pick(model.sorts.size());
        boolean on = n(3) > 0;
        same("bar(" + letter + ", " + on + ")", real.bar(letter, on), model.bar(letter, on));
    }

    private void typeOne() {
        int letter = toType();
        same("type(" + letter + ")", real.type(letter), model.type(letter));
    }

    /** In paragraphs every second letter or so is a blank. */
    private int toType() {
        for (int k = 0; k < 3 && aim == PARAGRAPHS && n(3) > 0; k++) {
            int letter = random.nextInt(model.sorts.size());
            if (model.sorts.get(letter) == 6) {
                return letter;
            }
        }
        int letter = pick(model.sorts.size());
        boolean ligature = letter >= 0 && letter < model.sorts.size() && model.sorts.get(letter) == 7;
        return ligature && n(9) > 0 ? random.nextInt(3) : letter;
    }

    private void any() {
        int kind = n(99);
        int ofLines = aim == PARAGRAPHS ? 30 : 70;
        if (kind < 2) {
            changeScript();
        } else if (kind < 7) {
            changeText();
        } else if (kind < ofLines) {
            if (model.hand == null || n(7) == 0) {
                setLine();
            } else if (n(5) == 0) {
                witnesses();
            } else {
                askLine();
            }
        } else if (kind < 97) {
            paragraphs();
        } else {
            askScript();
        }
    }

    private void changeScript() {
        switch (n(7)) {
            case 0 -> letter(pick(7));
            case 1 -> ligature();
            case 2 -> form(pick(model.sorts.size()), pick(4));
            case 3 -> stretch();
            case 4 -> point();
            default -> bar();
        }
    }

    private void changeText() {
        int size = model.text.size();
        switch (n(4)) {
            case 0, 1 -> {
                if (size < longest) {
                    typeOne();
                }
            }
            case 2 -> {
                int i = pick(size + 1);
                int letter = pick(model.sorts.size());
                if (size < longest) {
                    same("insert(" + i + ", " + letter + ")", real.insert(i, letter), model.insert(i, letter));
                }
            }
            case 3 -> {
                int i = pick(size);
                same("remove(" + i + ")", real.remove(i), model.remove(i));
            }
            default -> same("undo()", real.undo(), model.undo());
        }
    }

    private void askScript() {
        int i = pick(model.text.size());
        int what = pick(9);
        same("text(" + i + ")", real.text(i), model.text(i));
        int form = pick(model.forms.size());
        same("about(" + form + ", " + what + ")", real.about(form, what), model.about(form, what));
        what = pick(6);
        same("told(" + what + ")", real.told(what), model.told(what));
    }

    private void setLine() {
        int words = model.words();
        same("words()", real.words(), words);
        int i = pick(words);
        int j = n(2) == 0 ? pick(words) : Math.min(words - 1, i);
        if (n(3) == 0) {
            same("plain(" + i + ", " + j + ")", real.plain(i, j), model.plain(i, j));
            return;
        }
        int width = widthNear(i, j);
        sameIfFew("line(" + i + ", " + j + ", " + width + ")", () -> real.line(i, j, width),
                () -> model.line(i, j, width));
    }

    private int widthNear(int i, int j) {
        if (n(4) == 0) {
            return n(8) == 0 ? pick(301) : n(30);
        }
        Model.Set hand = model.hand;
        int plain = model.plain(i, j);
        model.hand = hand;
        return plain < 0 ? n(20) : plain + n(8) - 3;
    }

    private void askLine() {
        int pieces = model.hand == null ? 2 : model.hand.pieces.size();
        int marks = model.hand == null ? 2 : model.hand.marks.size();
        int k = pick(pieces);
        int m = pick(marks);
        int what = pick(6);
        int i = pick(model.text.size());
        switch (n(7)) {
            case 0 -> {
                what = pick(8);
                same("atHand(" + what + ")", real.atHand(what), model.atHand(what));
            }
            case 1 -> same("piece(" + k + ", " + what + ")", real.piece(k, what), model.piece(k, what));
            case 2, 3 -> same("mark(" + m + ", " + what + ")", real.mark(m, what), model.mark(m, what));
            case 4 -> same("seen(" + i + ")", real.seen(i), model.seen(i));
            case 5 -> same("place(" + i + ")", real.place(i), model.place(i));
            case 6 -> {
                int side = pick(2);
                sameIfFew("near(" + side + ")", () -> real.near(side), () -> model.near(side));
            }
            default -> {
                what = pick(5);
                same("shape(" + i + ", " + what + ")", real.shape(i, what), model.shape(i, what));
            }
        }
    }

    private void claim(int v) {
        same("claim(" + v + ")", real.claim(v), model.claim(v));
    }

    private void witnesses() {
        int words = model.words();
        int i = pick(words);
        int j = n(1) == 0 ? i : pick(words);
        switch (n(5)) {
            case 0 -> {
                int k = pick(model.hand == null ? 3 : 3 * model.hand.pieces.size() + 2);
                same("witness(" + k + ")", real.witness(k), model.witness(k));
            }
            case 1 -> claim(n(4));
            case 2 -> same("drop()", real.drop(), model.drop());
            case 3, 4 -> {
                same("drop()", real.drop(), model.drop());
                claimAlmost();
                same("check(" + i + ", " + j + ")", real.check(i, j), model.check(i, j));
            }
            default -> same("check(" + i + ", " + j + ")", real.check(i, j), model.check(i, j));
        }
    }

    /** The witness of the line at hand, often with a number changed, one more or one fewer. */
    private void claimAlmost() {
        if (model.hand == null) {
            return;
        }
        int count = 3 * model.hand.pieces.size() + 2;
        int spoilt = n(2) == 0 ? -1 : n(count);
        int kept = n(5) == 0 ? n(count) : count;
        for (int k = 0; k < kept; k++) {
            int v = model.witness(k);
            claim(k == spoilt ? v + (n(1) == 0 ? 1 : -1) : v);
        }
        if (n(7) == 0) {
            claim(n(3));
        }
    }

    private void paragraphs() {
        int lines = model.paragraph == null ? 2 : model.paragraph.size();
        int pages = model.pageList == null ? 2 : model.pageList.size();
        int k = n(5) == 0 ? -1 : pick(lines);
        int what = pick(5);
        switch (model.paragraph == null ? n(3) : n(9)) {
            case 0 -> {
                int width = n(8) == 0 ? pick(301) : 1 + n(aim == PARAGRAPHS ? 14 : 25);
                sameIfFew("best(" + width + ")", () -> real.best(width), () -> model.best(width));
            }
            case 1, 2 -> {
                int width = Math.max(1, model.paragraph == null ? n(20) : model.paragraphWidth - 1);
                sameIfFew("best(" + width + ")", () -> real.best(width), () -> model.best(width));
            }
            case 3, 4 -> same("lines(" + k + ", " + what + ")", real.lines(k, what), model.lines(k, what));
            case 5 -> sameIfFew("take(" + k + ")", () -> real.take(k), () -> model.take(k));
            case 6, 7 -> {
                int height = pageHeight();
                same("pages(" + height + ")", real.pages(height), model.pages(height));
            }
            default -> {
                int p = n(5) == 0 ? -1 : pick(pages);
                what = pick(3);
                same("page(" + p + ", " + what + ")", real.page(p, what), model.page(p, what));
            }
        }
    }

    /** Often what some of the lines need, or a little more. */
    private int pageHeight() {
        if (model.paragraph == null || n(8) == 0) {
            return pick(2001);
        }
        int sum = n(4);
        int from = n(1);
        int count = Math.min(from + 2 + n(2), model.paragraph.size());
        for (int k = from; k < count; k++) {
            sum += model.paragraph.get(k)[3] + model.paragraph.get(k)[4];
        }
        return sum;
    }
}
