/** Promises 1 to 8 and 33: a new object, letters, ligatures, forms, and what is told of them. */
public final class ScriptTest {
    private static final Due DUE = new Due("ScriptTest");

    private static int bits(float width) {
        return Float.floatToRawIntBits(width);
    }

    public static void main(String[] args) {
        newObject();
        letters();
        ligatures();
        fullLigatures();
        formPlaces();
        formWidths();
        formNumbers();
        fullForms();
        stretches();
        points();
        bars();
        abouts();
        refusalsChangeNothing();
        DUE.end();
    }

    private static void newObject() {
        JoinSetter x = new JoinSetter();
        for (int what = 0; what <= 5; what++) {
            DUE.is("new: told " + what, x.told(what), 0);
        }
        DUE.is("told(-1)", x.told(-1), -2);
        DUE.is("told(6)", x.told(6), -2);
        DUE.is("new: words", x.words(), 0);
        DUE.is("new: text", x.text(0), -6);
        DUE.is("new: undo", x.undo(), -3);
        DUE.is("new: shape", x.shape(0, 0), -1);
        DUE.is("new: line", x.line(0, 0, 10), -1);
        DUE.is("new: plain", x.plain(0, 0), -1);
        DUE.is("new: check", x.check(0, 0), -1);
        DUE.is("new: near", x.near(0), -3);
        DUE.is("new: atHand", x.atHand(0), -3);
        DUE.is("new: piece", x.piece(0, 0), -3);
        DUE.is("new: mark", x.mark(0, 0), -100003);
        DUE.is("new: seen", x.seen(0), -3);
        DUE.is("new: place", x.place(0), -3);
        DUE.is("new: witness", x.witness(0), -3);
        DUE.is("new: drop", x.drop(), 0);
        DUE.is("new: best", x.best(10), -3);
        DUE.is("new: lines", x.lines(-1, 0), -3);
        DUE.is("new: take", x.take(0), -3);
        DUE.is("new: pages", x.pages(10), -3);
        DUE.is("new: page", x.page(-1, 0), -3);
        DUE.is("new: type", x.type(0), -1);
        DUE.is("new: form", x.form(0, 0, bits(1), 0, 0, 0), -1);
        DUE.is("new: about", x.about(0, 0), -1);
    }

    private static void letters() {
        JoinSetter x = new JoinSetter();
        DUE.is("letter(-1)", x.letter(-1), -2);
        DUE.is("letter(7)", x.letter(7), -2);
        for (int k = 0; k < 60; k++) {
            DUE.is("letter " + k, x.letter(k % 7), k);
        }
        DUE.is("told(0)", x.told(0), 60);
        DUE.is("a letter too many", x.letter(0), -4);
        DUE.is("outside is ahead of full", x.letter(9), -2);
        DUE.is("a ligature too many", x.ligature(0, 7, -1, true), -4);
        DUE.is("told(0) still", x.told(0), 60);
        DUE.is("told(2) still", x.told(2), 0);
    }

    /** 0 and 1 joining, 2 after, then one of each other sort. */
    private static JoinSetter eight() {
        JoinSetter x = new JoinSetter();
        x.letter(0);
        for (int sort = 0; sort <= 6; sort++) {
            x.letter(sort);
        }
        return x;
    }

    private static void ligatures() {
        JoinSetter x = eight();
        DUE.is("x unknown", x.ligature(8, 0, -1, true), -1);
        DUE.is("y unknown", x.ligature(0, -1, -1, true), -1);
        DUE.is("z unknown", x.ligature(0, 0, -2, true), -1);
        DUE.is("z unknown", x.ligature(0, 0, 8, true), -1);
        DUE.is("unknown is ahead of outside", x.ligature(3, 0, 8, true), -1);
        DUE.is("x after", x.ligature(2, 0, -1, true), -2);
        DUE.is("y after, of three", x.ligature(0, 2, 0, true), -2);
        for (int k = 3; k <= 7; k++) {
            DUE.is("x of sort " + (k - 1), x.ligature(k, 0, -1, true), -2);
            DUE.is("y of sort " + (k - 1), x.ligature(0, k, -1, true), -2);
            DUE.is("z of sort " + (k - 1), x.ligature(0, 0, k, true), -2);
        }
        DUE.is("of two", x.ligature(0, 1, -1, true), 8);
        DUE.is("the same", x.ligature(0, 1, -1, true), -5);
        DUE.is("the same, may", x.ligature(0, 1, -1, false), -5);
        DUE.is("the other way about", x.ligature(1, 0, -1, false), 9);
        DUE.is("of three", x.ligature(0, 1, 0, false), 10);
        DUE.is("of three, the same", x.ligature(0, 1, 0, true), -5);
        DUE.is("last after", x.ligature(0, 1, 2, false), 11);
        DUE.is("of two, last after", x.ligature(0, 2, -1, true), 12);
        DUE.is("of a ligature", x.ligature(8, 0, -1, true), -2);
        DUE.is("told(0)", x.told(0), 13);
        DUE.is("told(2)", x.told(2), 5);
    }

    private static void fullLigatures() {
        JoinSetter x = eight();
        int[][] of = {{0, 0, -1}, {0, 1, -1}, {0, 2, -1}, {1, 0, -1}, {1, 1, -1}, {1, 2, -1}, {0, 0, 0}, {0, 0, 1}};
        for (int k = 0; k < 8; k++) {
            DUE.is("ligature " + k, x.ligature(of[k][0], of[k][1], of[k][2], true), 8 + k);
        }
        DUE.is("a ninth", x.ligature(0, 0, 2, true), -4);
        DUE.is("full is ahead of no", x.ligature(0, 0, -1, true), -4);
        DUE.is("outside is ahead of full", x.ligature(2, 0, -1, true), -2);
        DUE.is("unknown is ahead of full", x.ligature(99, 0, -1, true), -1);
        DUE.is("told(2)", x.told(2), 8);
    }

    private static void formPlaces() {
        JoinSetter x = eight();
        x.ligature(0, 1, -1, true);
        x.ligature(0, 2, -1, true);
        x.ligature(0, 0, 1, true);
        x.ligature(0, 0, 2, true);
        boolean[] all = {true, true, false, false, false, false, false, false, true, false, true, false};
        boolean[] last = {true, true, true, false, false, false, false, false, true, true, true, true};
        for (int letter = 0; letter < 12; letter++) {
            boolean[] can = {false, true, all[letter], all[letter], last[letter], false};
            for (int place = -1; place <= 4; place++) {
                int forms = x.told(1);
                int want = can[place + 1] ? forms : -2;
                DUE.is("form of " + letter + " at " + place, x.form(letter, place, bits(1), 0, 0, 0), want);
            }
        }
        DUE.is("form(-1)", x.form(-1, 0, bits(1), 0, 0, 0), -1);
        DUE.is("form(12)", x.form(12, 9, bits(1), 0, 0, 0), -1);
    }

    private static void formWidths() {
        float[] widths = {0.50000006f, 0.75f, 1f, 1.4999999f, 1.5f, 2.5f, 2.5000002f, 3.5f, 98.5f, 99.5f, 100f, 100.5f,
            63.5f, 64.5f, 64.50001f};
        int[] wholes = {1, 1, 1, 1, 2, 2, 3, 4, 98, 100, 100, 100, 64, 64, 65};
        for (int k = 0; k < widths.length; k++) {
            JoinSetter x = new JoinSetter();
            x.letter(2);
            DUE.is("form of width " + widths[k], x.form(0, 0, bits(widths[k]), 0, 0, 0), 0);
            DUE.is("width " + widths[k], x.about(0, 2), wholes[k]);
            DUE.is("point at width " + widths[k], x.about(0, 6), wholes[k] / 2);
        }
        float[] wrong = {0f, -0f, 0.5f, 0.25f, Float.MIN_VALUE, -1f, -50f, 100.50001f, 101f, 127.9f, 128f, 1e20f,
            Float.MAX_VALUE, Float.POSITIVE_INFINITY, Float.NEGATIVE_INFINITY, Float.NaN};
        JoinSetter x = new JoinSetter();
        x.letter(2);
        for (float width : wrong) {
            DUE.is("form of width " + width, x.form(0, 0, bits(width), 0, 0, 0), -2);
        }
        DUE.is("not a number either", x.form(0, 0, -1, 0, 0, 0), -2);
        DUE.is("bits 5", x.form(0, 0, 5, 0, 0, 0), -2);
        DUE.is("told(1)", x.told(1), 0);
    }

    private static void formNumbers() {
        JoinSetter x = eight();
        DUE.is("height -1", x.form(0, 0, bits(1), -1, 0, 0), -2);
        DUE.is("height 101", x.form(0, 0, bits(1), 101, 0, 0), -2);
        DUE.is("depth -1", x.form(0, 0, bits(1), 0, -1, 0), -2);
        DUE.is("depth 101", x.form(0, 0, bits(1), 0, 101, 0), -2);
        DUE.is("price -1", x.form(0, 0, bits(1), 0, 0, -1), -2);
        DUE.is("price 1001", x.form(0, 0, bits(1), 0, 0, 1001), -2);
        DUE.is("the greatest", x.form(0, 0, bits(100), 100, 100, 1000), 0);
        DUE.is("the least", x.form(0, 0, bits(1), 0, 0, 0), 1);
        DUE.is("a third", x.form(0, 0, bits(1), 0, 0, 0), 2);
        DUE.is("a fourth", x.form(0, 0, bits(1), 0, 0, 0), -4);
        DUE.is("outside is ahead of full", x.form(0, 0, bits(1), 0, 0, 1001), -2);
        DUE.is("at another place", x.form(0, 1, bits(1), 0, 0, 0), 3);
        DUE.is("of another letter", x.form(1, 0, bits(1), 0, 0, 0), 4);
    }

    private static void fullForms() {
        JoinSetter x = new JoinSetter();
        for (int letter = 0; letter < 17; letter++) {
            x.letter(0);
        }
        for (int k = 0; k < 200; k++) {
            DUE.is("form " + k, x.form(k / 12, k / 3 % 4, bits(1 + k % 100), 0, 0, 0), k);
        }
        DUE.is("a form too many", x.form(16, 3, bits(1), 0, 0, 0), -4);
        DUE.is("told(1)", x.told(1), 200);
        DUE.is("the last one's width", x.about(199, 2), 100);
    }

    private static void stretches() {
        JoinSetter x = eight();
        x.form(0, 0, bits(4), 1, 1, 1);
        x.form(4, 0, bits(4), 1, 1, 1);
        x.form(5, 0, bits(4), 1, 1, 1);
        x.form(7, 0, bits(4), 1, 1, 1);
        DUE.is("unknown", x.stretch(4, 1, 1), -1);
        DUE.is("unknown", x.stretch(-1, 99, 1), -1);
        DUE.is("most -1", x.stretch(0, -1, 1), -2);
        DUE.is("most 13", x.stretch(0, 13, 1), -2);
        DUE.is("factor -1", x.stretch(0, 1, -1), -2);
        DUE.is("factor 51", x.stretch(0, 1, 51), -2);
        DUE.is("of a mark above", x.stretch(1, 1, 1), -5);
        DUE.is("of a mark below", x.stretch(2, 0, 0), -5);
        DUE.is("outside is ahead of no", x.stretch(1, 13, 1), -2);
        DUE.is("the greatest", x.stretch(0, 12, 50), 1);
        DUE.is("most", x.about(0, 7), 12);
        DUE.is("factor", x.about(0, 8), 50);
        DUE.is("of a blank", x.stretch(3, 0, 0), 1);
    }

    private static void points() {
        JoinSetter x = eight();
        x.form(0, 0, bits(5), 1, 1, 1);
        DUE.is("at first", x.about(0, 6), 2);
        DUE.is("unknown", x.point(1, 0), -1);
        DUE.is("unknown", x.point(-1, 9), -1);
        DUE.is("point -1", x.point(0, -1), -2);
        DUE.is("point 6", x.point(0, 6), -2);
        DUE.is("point 5", x.point(0, 5), 1);
        DUE.is("it is 5", x.about(0, 6), 5);
        DUE.is("point 0", x.point(0, 0), 1);
        DUE.is("it is 0", x.about(0, 6), 0);
    }

    private static void bars() {
        JoinSetter x = eight();
        DUE.is("unknown", x.bar(8, true), -1);
        DUE.is("unknown", x.bar(-1, false), -1);
        DUE.is("not yet", x.bar(7, false), 0);
        DUE.is("now", x.bar(7, true), 0);
        DUE.is("it was", x.bar(7, true), 1);
        DUE.is("it was, still", x.bar(7, false), 1);
        DUE.is("no more", x.bar(7, true), 0);
        DUE.is("another one", x.bar(6, true), 0);
    }

    private static void abouts() {
        JoinSetter x = eight();
        x.form(1, 2, bits(7), 11, 12, 13);
        x.stretch(0, 3, 4);
        x.point(0, 6);
        int[] want = {1, 2, 7, 11, 12, 13, 6, 3, 4};
        for (int what = 0; what < 9; what++) {
            DUE.is("about " + what, x.about(0, what), want[what]);
        }
        DUE.is("what -1", x.about(0, -1), -2);
        DUE.is("what 9", x.about(0, 9), -2);
        DUE.is("unknown ahead", x.about(1, 9), -1);
    }

    /** A line at hand and near() stay through refused calls, and go with any that changes the script. */
    private static void refusalsChangeNothing() {
        for (int change = 0; change < 12; change++) {
            JoinSetter x = eight();
            x.form(0, 0, bits(4), 1, 1, 1);
            x.type(0);
            x.line(0, 0, 4);
            x.best(4);
            x.pages(2);
            boolean changes = change < 6;
            changeOrNot(x, change);
            DUE.is("at hand after change " + change, x.atHand(1), changes ? -3 : 4);
            DUE.is("near after change " + change, x.near(0), changes ? -3 : -6);
            DUE.is("lines after change " + change, x.lines(-1, 0), changes ? -3 : 1);
            DUE.is("take after change " + change, x.take(0), changes ? -3 : 4);
            DUE.is("page after change " + change, x.page(-1, 0), changes ? -3 : 1);
            DUE.is("pages after change " + change, x.pages(2), changes ? -3 : 0);
        }
    }

    private static void changeOrNot(JoinSetter x, int change) {
        switch (change) {
            case 0 -> x.letter(0);
            case 1 -> x.ligature(0, 0, -1, false);
            case 2 -> x.form(0, 1, bits(1), 0, 0, 0);
            case 3 -> x.stretch(0, 1, 1);
            case 4 -> x.point(0, 1);
            case 5 -> x.bar(0, true);
            case 6 -> x.letter(7);
            case 7 -> x.ligature(2, 0, -1, false);
            case 8 -> x.form(0, 1, bits(0), 0, 0, 0);
            case 9 -> x.stretch(0, 13, 1);
            case 10 -> x.point(0, 5);
            default -> x.bar(99, true);
        }
    }
}
