/** Promises 16 to 20, 22 and 23: lines filled and plain, what is at hand, the order in which letters are seen. */
public final class LineTest {
    private static final Due DUE = new Due("LineTest");

    private static int bits(int width) {
        return Float.floatToRawIntBits(width);
    }

    /** A new object with letters of these sorts, each with one form for each place: width 2 and its price 0. */
    private static JoinSetter script(int... sorts) {
        JoinSetter x = new JoinSetter();
        for (int sort : sorts) {
            int letter = x.letter(sort);
            for (int place = 0; place < 4; place++) {
                x.form(letter, place, bits(2), 3, 1, 0);
            }
        }
        return x;
    }

    private static void typeAll(JoinSetter x, int... letters) {
        for (int letter : letters) {
            x.type(letter);
        }
    }

    /** Pieces: for each letter, form and stretch. */
    private static void pieces(String name, JoinSetter x, int... want) {
        DUE.is(name + ": how many pieces", x.atHand(0), want.length / 3);
        for (int k = 0; k < want.length / 3; k++) {
            DUE.is(name + ": letter of piece " + k, x.piece(k, 0), want[3 * k]);
            DUE.is(name + ": form of piece " + k, x.piece(k, 3), want[3 * k + 1]);
            DUE.is(name + ": stretch of piece " + k, x.piece(k, 4), want[3 * k + 2]);
        }
    }

    public static void main(String[] args) {
        refusals();
        oneStretchInAWord();
        behindABar();
        barredLigature();
        barredLoneMark();
        blanksAreFree();
        formsInOrder();
        lesserStretchFirst();
        aloneAheadOfLigatures();
        ligaturesAsTold();
        ligaturesAcrossMarks();
        mustIsNotSplit();
        lettersWithoutForms();
        widths();
        nears();
        plains();
        atHands();
        seenOrder();
        digitsWithMarks();
        handComesAndGoes();
        DUE.end();
    }

    private static void refusals() {
        JoinSetter x = script(0, 6);
        typeAll(x, 0, 1, 0);
        DUE.is("i below 0", x.line(-1, 0, 2), -1);
        DUE.is("j too great", x.line(0, 2, 2), -1);
        DUE.is("i above j", x.line(1, 0, 2), -1);
        DUE.is("unknown is ahead of outside", x.line(1, 0, 301), -1);
        DUE.is("width -1", x.line(0, 0, -1), -2);
        DUE.is("width 301", x.line(0, 0, 301), -2);
        DUE.is("width 0", x.line(0, 0, 0), -5);
        DUE.is("width 2", x.line(1, 1, 2), 0);
        DUE.is("piece -1", x.piece(-1, 0), -1);
        DUE.is("piece 1", x.piece(1, 9), -1);
        DUE.is("piece what", x.piece(0, 6), -2);
        DUE.is("piece what", x.piece(0, -1), -2);
        DUE.is("at hand what", x.atHand(8), -2);
        DUE.is("at hand what", x.atHand(-1), -2);
        DUE.is("seen -1", x.seen(-1), -1);
        DUE.is("seen 1", x.seen(1), -1);
        DUE.is("place 1", x.place(1), -1);
        DUE.is("place 3", x.place(3), -1);
        DUE.is("place 2", x.place(2), 0);
        DUE.is("plain", x.plain(1, 0), -1);
        DUE.is("plain", x.plain(-1, 0), -1);
        DUE.is("plain", x.plain(0, 2), -1);
        x.type(0);
        DUE.is("outside is ahead of state", x.atHand(8), -2);
        DUE.is("state is ahead of unknown", x.piece(9, 9), -3);
        DUE.is("state is ahead of unknown", x.seen(99), -3);
        DUE.is("state is ahead of unknown", x.place(99), -3);
    }

    private static void oneStretchInAWord() {
        JoinSetter x = script(2);
        x.stretch(0, 3, 1);
        typeAll(x, 0, 0, 0);
        DUE.is("one stretched by 2", x.line(0, 0, 8), 4);
        pieces("one stretched", x, 0, 0, 0, 0, 0, 0, 0, 0, 2);
        DUE.is("by 3", x.line(0, 0, 9), 9);
        DUE.is("not two of them", x.line(0, 0, 10), -5);
        DUE.is("below", x.near(0), 9);
        DUE.is("above", x.near(1), -6);
    }

    private static void behindABar() {
        JoinSetter x = script(2, 2);
        x.stretch(0, 3, 1);
        x.stretch(1, 3, 5);
        typeAll(x, 1, 0, 0);
        DUE.is("the last one", x.line(0, 0, 7), 1);
        pieces("free", x, 1, 1, 0, 0, 0, 0, 0, 0, 1);
        x.bar(0, true);
        DUE.is("the middle one", x.line(0, 0, 7), 1);
        pieces("behind the first", x, 1, 1, 0, 0, 0, 1, 0, 0, 0);
        x.bar(1, true);
        DUE.is("the first one alone", x.line(0, 0, 7), 5);
        pieces("all are barred", x, 1, 1, 1, 0, 0, 0, 0, 0, 0);
        x.bar(0, false);
        DUE.is("the last one again", x.line(0, 0, 7), 1);
        pieces("the last one again", x, 1, 1, 0, 0, 0, 0, 0, 0, 1);
    }

    /** Of a ligature its own bar counts, not that of its letters. */
    private static void barredLigature() {
        JoinSetter x = script(0, 2);
        x.ligature(0, 0, -1, true);
        x.form(2, 0, bits(2), 3, 1, 0);
        x.stretch(4, 3, 1);
        typeAll(x, 0, 0, 1);
        x.bar(0, true);
        DUE.is("its letters are barred", x.line(0, 0, 5), 1);
        x.bar(2, true);
        DUE.is("it is barred", x.line(0, 0, 5), -5);
        DUE.is("without a stretch", x.line(0, 0, 4), 0);
    }

    private static void barredLoneMark() {
        JoinSetter x = script(3, 2);
        x.stretch(1, 3, 1);
        typeAll(x, 0, 1);
        DUE.is("free", x.line(0, 0, 5), 1);
        x.bar(0, true);
        DUE.is("behind a barred mark that is a piece", x.line(0, 0, 5), -5);
        typeAll(x, 0, 1);
        DUE.is("a mark that stands bars nothing", x.line(0, 0, 7), 1);
        pieces("mark", x, 0, 0, 0, 1, 1, 0, 1, 1, 1);
    }

    private static void blanksAreFree() {
        JoinSetter x = script(2, 6);
        x.stretch(0, 2, 1);
        x.stretch(1, 4, 1);
        typeAll(x, 1, 0, 1, 1, 0, 1);
        x.bar(0, true);
        x.bar(1, true);
        DUE.is("both blanks, both words", x.line(0, 1, 14), 10);
        pieces("both", x, 0, 0, 1, 1, 1, 1, 1, 1, 2, 0, 0, 2);
        DUE.is("all there is", x.line(0, 1, 20), 40);
        DUE.is("first letter", x.atHand(6), 1);
        DUE.is("letters", x.atHand(7), 4);
    }

    private static void formsInOrder() {
        JoinSetter x = script(2);
        x.form(0, 0, bits(3), 3, 1, 0);
        x.form(0, 0, bits(2), 3, 1, 0);
        typeAll(x, 0, 0);
        DUE.is("as told", x.line(0, 0, 5), 0);
        pieces("as told", x, 0, 0, 0, 0, 1, 0);
        DUE.is("both wide", x.line(0, 0, 6), 0);
        pieces("both wide", x, 0, 1, 0, 0, 1, 0);
        DUE.is("both plain", x.line(0, 0, 4), 0);
        pieces("both plain", x, 0, 0, 0, 0, 0, 0);
    }

    private static void lesserStretchFirst() {
        JoinSetter x = script(2);
        x.stretch(0, 2, 0);
        typeAll(x, 0, 0);
        DUE.is("at no price", x.line(0, 0, 6), 0);
        pieces("the lesser first", x, 0, 0, 0, 0, 0, 2);
        x.form(0, 0, bits(4), 3, 1, 0);
        DUE.is("at no price", x.line(0, 0, 6), 0);
        pieces("a form comes ahead of a stretch", x, 0, 0, 0, 0, 0, 2);
    }

    private static void aloneAheadOfLigatures() {
        JoinSetter x = script(0);
        x.ligature(0, 0, -1, false);
        x.form(1, 0, bits(4), 3, 1, 0);
        x.form(1, 1, bits(4), 3, 1, 0);
        x.form(1, 3, bits(4), 3, 1, 0);
        typeAll(x, 0, 0, 0);
        DUE.is("alone", x.line(0, 0, 6), 0);
        pieces("alone", x, 0, 1, 0, 0, 2, 0, 0, 3, 0);
        x.stretch(6, 1, 0);
        DUE.is("the second two", x.line(0, 0, 7), 0);
        pieces("the second two", x, 0, 1, 0, 1, 6, 1);
        DUE.is("place", x.piece(1, 2), 3);
        DUE.is("first letter", x.piece(1, 1), 1);
        DUE.is("x", x.piece(1, 5), 2);
    }

    private static void ligaturesAsTold() {
        JoinSetter x = script(0);
        x.ligature(0, 0, 0, false);
        x.ligature(0, 0, -1, false);
        x.form(1, 0, bits(9), 3, 1, 0);
        x.form(2, 1, bits(7), 3, 1, 0);
        typeAll(x, 0, 0, 0);
        DUE.is("the first one told", x.line(0, 0, 9), 0);
        pieces("of three", x, 1, 4, 0);
        JoinSetter y = script(0);
        y.ligature(0, 0, -1, false);
        y.ligature(0, 0, 0, false);
        y.form(2, 0, bits(9), 3, 1, 0);
        y.form(1, 1, bits(7), 3, 1, 0);
        typeAll(y, 0, 0, 0);
        DUE.is("the first one told", y.line(0, 0, 9), 0);
        pieces("of two", y, 1, 5, 0, 0, 3, 0);
    }

    private static void ligaturesAcrossMarks() {
        JoinSetter x = script(0, 3);
        x.ligature(0, 0, -1, false);
        x.form(2, 0, bits(9), 3, 1, 0);
        typeAll(x, 0, 1, 1, 0, 1);
        DUE.is("marks are passed by", x.line(0, 0, 9), 0);
        pieces("one piece", x, 2, 5, 0);
        DUE.is("marks", x.atHand(3), 3);
        DUE.is("letters", x.atHand(7), 5);
        DUE.is("the last mark's piece", x.mark(2, 1), 0);
        x.insert(2, 1);
        x.insert(2, 0);
        DUE.is("a letter between", x.line(0, 0, 9), -5);
    }

    private static void mustIsNotSplit() {
        JoinSetter x = script(0, 1);
        x.ligature(0, 1, -1, true);
        x.ligature(0, 0, -1, false);
        x.ligature(0, 0, 1, false);
        x.form(2, 0, bits(5), 3, 1, 0);
        x.form(2, 3, bits(5), 3, 1, 0);
        x.form(3, 0, bits(3), 3, 1, 0);
        x.form(3, 1, bits(3), 3, 1, 0);
        x.form(4, 0, bits(1), 3, 1, 0);
        typeAll(x, 0, 0, 1);
        DUE.is("must", x.line(0, 0, 7), 0);
        pieces("must", x, 0, 1, 0, 2, 7, 0);
        DUE.is("none of the others", x.near(0), -6);
        DUE.is("none of the others", x.near(1), -6);
    }

    private static void lettersWithoutForms() {
        JoinSetter x = script(0);
        x.letter(0);
        x.letter(3);
        x.ligature(0, 1, -1, false);
        x.form(3, 0, bits(6), 3, 1, 5);
        typeAll(x, 0, 1);
        DUE.is("not plain", x.plain(0, 0), -5);
        DUE.is("by its ligature", x.line(0, 0, 6), 5);
        DUE.is("the line stays", x.plain(0, 0), -5);
        DUE.is("the line stays", x.atHand(2), 5);
        DUE.is("a last line that can't be plain is filled", x.best(6), 5);
        DUE.is("and not less wide", x.best(7), -5);
        x.type(2);
        DUE.is("a mark without a form", x.line(0, 0, 6), -5);
        DUE.is("near", x.near(0), -6);
        x.form(2, 0, bits(3), 3, 1, 7);
        DUE.is("with a form, whose price does not count", x.line(0, 0, 6), 5);
    }

    private static void widths() {
        JoinSetter x = new JoinSetter();
        x.letter(2);
        x.form(0, 0, bits(100), 1, 1, 1000);
        x.stretch(0, 12, 50);
        typeAll(x, 0, 0, 0);
        DUE.is("300", x.line(0, 0, 300), 3000);
        DUE.is("none below", x.near(0), -6);
        DUE.is("none above, of 0 to 300", x.near(1), -6);
        DUE.is("299", x.line(0, 0, 299), -5);
        DUE.is("above", x.near(1), 300);
        x.type(0);
        DUE.is("none at all", x.line(0, 0, 300), -5);
        DUE.is("none at all", x.near(0), -6);
        DUE.is("plain may be wider", x.plain(0, 0), 400);
        DUE.is("price", x.atHand(2), 4000);
    }

    private static void nears() {
        JoinSetter x = script(2);
        x.form(0, 0, bits(7), 1, 1, 9);
        typeAll(x, 0, 0);
        DUE.is("none yet", x.near(0), -3);
        DUE.is("outside is ahead of state", x.near(2), -2);
        DUE.is("outside is ahead of state", x.near(-1), -2);
        DUE.is("it goes", x.line(0, 0, 9), 9);
        DUE.is("below", x.near(0), 4);
        DUE.is("above", x.near(1), 14);
        DUE.is("unknown", x.line(0, 1, 9), -1);
        DUE.is("outside", x.line(0, 0, 301), -2);
        DUE.is("still below", x.near(0), 4);
        DUE.is("no way", x.line(0, 0, 5), -5);
        DUE.is("below 5", x.near(0), 4);
        DUE.is("above 5", x.near(1), 9);
        DUE.is("no way", x.line(0, 0, 0), -5);
        DUE.is("below 0", x.near(0), -6);
        DUE.is("above 0", x.near(1), 4);
        x.best(9);
        x.plain(0, 0);
        DUE.is("other calls leave it", x.near(1), 4);
        x.type(0);
        DUE.is("changed", x.near(1), -3);
        x.undo();
        DUE.is("changed twice", x.near(1), -3);
    }

    private static void plains() {
        JoinSetter x = script(0, 6);
        x.form(0, 0, bits(1), 9, 9, 0);
        x.stretch(0, 5, 1);
        x.form(1, 0, bits(1), 0, 0, 0);
        int dear = x.letter(2);
        x.form(dear, 0, bits(4), 1, 1, 7);
        typeAll(x, 0, 1, 1, 2, 0, 0);
        DUE.is("width", x.plain(0, 1), 14);
        DUE.is("at hand", x.atHand(1), 14);
        DUE.is("its price is that of its forms", x.atHand(2), 7);
        pieces("plain", x, 0, 0, 0, 1, 4, 0, 1, 4, 0, 2, 7, 0, 0, 1, 0, 0, 3, 0);
        DUE.is("a word alone", x.plain(1, 1), 8);
        DUE.is("its first letter", x.atHand(6), 3);
        DUE.is("its letters", x.atHand(7), 3);
    }

    private static void atHands() {
        JoinSetter x = new JoinSetter();
        x.letter(2);
        x.letter(6);
        x.letter(3);
        x.letter(4);
        x.form(0, 0, bits(4), 5, 2, 3);
        x.form(1, 0, bits(3), 9, 1, 2);
        x.form(2, 0, bits(2), 6, 50, 0);
        x.form(3, 0, bits(2), 4, 50, 0);
        typeAll(x, 0, 1, 0, 2, 3);
        DUE.is("plain", x.plain(0, 1), 11);
        int[] want = {3, 11, 8, 2, 11, 6, 0, 5};
        for (int what = 0; what < 8; what++) {
            DUE.is("at hand " + what, x.atHand(what), want[what]);
        }
        DUE.is("a word alone", x.plain(0, 0), 4);
        int[] alone = {1, 4, 3, 0, 5, 2, 0, 1};
        for (int what = 0; what < 8; what++) {
            DUE.is("at hand " + what, x.atHand(what), alone[what]);
        }
        DUE.is("a blank's height counts", x.undo(), 4);
        DUE.is("a blank's height counts", x.undo(), 3);
        DUE.is("a blank's height counts", x.plain(0, 1), 11);
        DUE.is("a blank's height counts", x.atHand(4), 9);
    }

    private static void seenAs(String name, JoinSetter x, int... want) {
        for (int k = 0; k < want.length; k++) {
            DUE.is(name + ": seen " + k, x.seen(k), want[k]);
            DUE.is(name + ": place " + want[k], x.place(want[k]), k);
        }
        DUE.is(name + ": no more", x.seen(want.length), -1);
    }

    private static void seenOrder() {
        JoinSetter x = script(2, 5, 6, 5);
        typeAll(x, 0, 1, 3, 1, 0, 1, 2, 1, 1);
        x.plain(0, 1);
        seenAs("both words", x, 7, 8, 6, 5, 4, 1, 2, 3, 0);
        x.plain(0, 0);
        seenAs("the first one", x, 5, 4, 1, 2, 3, 0);
        x.plain(1, 1);
        seenAs("the second one", x, 7, 8);
        DUE.is("not in the line", x.place(5), -1);
        DUE.is("not in the line", x.place(6), -1);
        DUE.is("not in the line", x.place(9), -1);
        DUE.is("not in the line", x.place(-1), -1);
    }

    /** A mark between two digits: they are not next to one another. */
    private static void digitsWithMarks() {
        JoinSetter x = script(5, 3);
        typeAll(x, 0, 0, 1, 0, 0, 1);
        x.plain(0, 0);
        seenAs("marks", x, 5, 3, 4, 2, 0, 1);
    }

    private static void handComesAndGoes() {
        JoinSetter x = script(2, 6);
        x.stretch(0, 1, 1);
        typeAll(x, 0, 1, 0, 0);
        DUE.is("a line", x.line(0, 0, 3), 1);
        DUE.is("unknown changes nothing", x.line(0, 5, 3), -1);
        DUE.is("it is still there", x.atHand(1), 3);
        DUE.is("outside changes nothing", x.line(0, 0, 999), -2);
        DUE.is("it is still there", x.atHand(1), 3);
        DUE.is("plain takes its place", x.plain(1, 1), 4);
        DUE.is("it is there", x.atHand(1), 4);
        DUE.is("best leaves it", x.best(8), 0);
        DUE.is("it is there", x.atHand(1), 4);
        DUE.is("no way", x.line(0, 0, 99), -5);
        DUE.is("none is at hand", x.atHand(1), -3);
        DUE.is("a line", x.line(0, 0, 3), 1);
        DUE.is("an edit", x.remove(3), 0);
        DUE.is("none is at hand", x.atHand(1), -3);
        DUE.is("a line", x.line(0, 0, 3), 1);
        DUE.is("a refused edit", x.remove(3), -2);
        DUE.is("it is still there", x.piece(0, 4), 1);
        DUE.is("undone", x.undo(), 4);
        DUE.is("none is at hand", x.piece(0, 4), -3);
    }
}
