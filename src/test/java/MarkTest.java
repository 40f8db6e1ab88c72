/** Promise 21: where marks stand, and how they are lifted off one another. */
public final class MarkTest {
    private static final Due DUE = new Due("MarkTest");

    private static int bits(int width) {
        return Float.floatToRawIntBits(width);
    }

    private static JoinSetter typed(JoinSetter x, int... letters) {
        for (int letter : letters) {
            x.type(letter);
        }
        x.plain(0, x.words() - 1);
        return x;
    }

    private static void mark(String name, JoinSetter x, int k, int... want) {
        for (int what = 0; what < 6; what++) {
            DUE.is(name + ": mark(" + k + ", " + what + ")", x.mark(k, what), want[what]);
        }
    }

    public static void main(String[] args) {
        refusals();
        standing();
        stacked();
        liftedOffPieces();
        liftedOffMarks();
        edgesDoNotTouch();
        noHeight();
        threeHundred();
        byFormAndStretch();
        loneMarks();
        secondFormsOfMarks();
        DUE.end();
    }

    private static JoinSetter script(int pieceHeight, int pieceDepth, int markWidth, int markHeight) {
        JoinSetter x = new JoinSetter();
        x.letter(2);
        x.letter(3);
        x.letter(4);
        x.letter(2);
        x.form(0, 0, bits(4), pieceHeight, pieceDepth, 0);
        x.form(1, 0, bits(markWidth), markHeight, 9, 0);
        x.form(2, 0, bits(markWidth), markHeight, 9, 0);
        x.form(3, 0, bits(4), 10, 8, 0);
        return x;
    }

    private static void refusals() {
        JoinSetter x = script(5, 2, 2, 1);
        DUE.is("state", x.mark(0, 0), -100003);
        DUE.is("state is ahead", x.mark(99, 99), -100003);
        typed(x, 0, 1);
        DUE.is("unknown", x.mark(1, 0), -100001);
        DUE.is("unknown", x.mark(-1, 9), -100001);
        DUE.is("outside", x.mark(0, 6), -100002);
        DUE.is("outside", x.mark(0, -1), -100002);
        DUE.is("a mark", x.mark(0, 0), 1);
    }

    private static void standing() {
        JoinSetter x = typed(script(5, 2, 2, 1), 0, 0, 1, 2);
        mark("above", x, 0, 2, 1, 5, 5, 6, 0);
        mark("below", x, 1, 3, 1, 5, -3, -2, 0);
        JoinSetter odd = typed(script(5, 2, 3, 1), 0, 1);
        mark("an odd width", odd, 0, 1, 0, 1, 5, 6, 0);
        JoinSetter wide = typed(script(5, 2, 9, 1), 0, 1);
        mark("wider than all", wide, 0, 1, 0, -2, 5, 6, 0);
    }

    private static void stacked() {
        JoinSetter x = typed(script(5, 2, 2, 3), 0, 1, 2, 1, 2, 1);
        mark("first above", x, 0, 1, 0, 1, 5, 8, 0);
        mark("first below", x, 1, 2, 0, 1, -5, -2, 0);
        mark("second above", x, 2, 3, 0, 1, 8, 11, 0);
        mark("second below", x, 3, 4, 0, 1, -8, -5, 0);
        mark("third above", x, 4, 5, 0, 1, 11, 14, 0);
        DUE.is("height", x.atHand(4), 14);
        DUE.is("depth", x.atHand(5), 8);
    }

    private static void liftedOffPieces() {
        JoinSetter x = typed(script(5, 2, 6, 3), 0, 1, 2, 3);
        mark("above, by the piece behind", x, 0, 1, 0, -1, 10, 13, 5);
        mark("below, by the piece behind", x, 1, 2, 0, -1, -11, -8, 6);
        JoinSetter y = typed(script(5, 2, 6, 3), 3, 0, 1, 2);
        mark("above, by the piece ahead", y, 0, 2, 1, 3, 10, 13, 5);
        mark("below, by the piece ahead", y, 1, 3, 1, 3, -11, -8, 6);
        JoinSetter own = script(5, 2, 3, 3);
        own.point(0, 0);
        typed(own, 0, 1, 0);
        mark("at its point", own, 0, 1, 0, -1, 5, 8, 0);
    }

    private static void liftedOffMarks() {
        JoinSetter x = typed(script(5, 2, 6, 3), 0, 1, 0, 1, 2, 0, 2, 2);
        mark("the first", x, 0, 1, 0, -1, 5, 8, 0);
        mark("off the first", x, 1, 3, 1, 3, 8, 11, 3);
        mark("the first below", x, 2, 4, 1, 3, -5, -2, 0);
        mark("off the first below", x, 3, 6, 2, 7, -8, -5, 3);
        mark("from the latest on its own piece", x, 4, 7, 2, 7, -11, -8, 0);
    }

    private static void edgesDoNotTouch() {
        JoinSetter x = typed(script(5, 2, 4, 3), 3, 0, 1, 3);
        mark("side by side", x, 0, 2, 1, 4, 5, 8, 0);
        JoinSetter y = typed(script(10, 8, 6, 3), 3, 0, 1, 2, 3);
        mark("on top of the others", y, 0, 2, 1, 3, 10, 13, 0);
        mark("below the others", y, 1, 3, 1, 3, -11, -8, 0);
    }

    private static void noHeight() {
        JoinSetter x = typed(script(5, 2, 6, 0), 0, 1, 2, 3, 1, 1);
        mark("touches nothing", x, 0, 1, 0, -1, 5, 5, 0);
        mark("touches nothing", x, 1, 2, 0, -1, -2, -2, 0);
        mark("touches nothing", x, 2, 4, 1, 3, 10, 10, 0);
        JoinSetter y = new JoinSetter();
        y.letter(2);
        y.letter(3);
        y.letter(2);
        y.form(0, 0, bits(4), 0, 0, 0);
        y.form(1, 0, bits(6), 3, 0, 0);
        y.form(2, 0, bits(4), 0, 0, 0);
        typed(y, 0, 1, 2);
        mark("a piece of no height", y, 0, 1, 0, -1, 0, 3, 0);
        JoinSetter z = script(3, 2, 4, 6);
        z.letter(3);
        z.letter(4);
        z.letter(2);
        z.form(4, 0, bits(6), 0, 0, 0);
        z.form(5, 0, bits(6), 0, 0, 0);
        z.form(6, 0, bits(4), 5, 4, 0);
        typed(z, 6, 4, 5, 0, 1, 2);
        mark("no height, beyond its piece", z, 0, 1, 0, -1, 5, 5, 0);
        mark("no height, beyond its piece", z, 1, 2, 0, -1, -4, -4, 0);
        mark("across a mark of no height", z, 2, 4, 1, 4, 3, 9, 0);
        mark("across a mark of no height", z, 3, 5, 1, 4, -8, -2, 0);
    }

    /** Stacks of 100 each on two pieces: the second stack would have to be lifted by more than 300. */
    private static void threeHundred() {
        JoinSetter x = typed(script(5, 2, 6, 100), 0, 1, 1, 1, 1, 0, 1, 1, 2);
        mark("the fourth", x, 3, 4, 0, -1, 305, 405, 0);
        mark("no more than 300", x, 4, 6, 1, 3, 305, 405, 300);
        mark("off what it touches", x, 5, 7, 1, 3, 405, 505, 0);
        mark("below", x, 6, 8, 1, 3, -102, -2, 0);
        JoinSetter y = typed(script(5, 2, 6, 100), 0, 2, 2, 2, 0, 2, 2);
        mark("just 300", y, 3, 5, 1, 3, -402, -302, 300);
        mark("behind it", y, 4, 6, 1, 3, -502, -402, 0);
    }

    private static void byFormAndStretch() {
        JoinSetter x = new JoinSetter();
        x.letter(2);
        x.letter(3);
        x.form(0, 0, bits(4), 5, 2, 9);
        x.form(0, 0, bits(8), 7, 2, 0);
        x.stretch(0, 3, 1);
        x.point(1, 7);
        x.form(1, 0, bits(2), 1, 0, 0);
        x.type(0);
        x.type(1);
        x.type(0);
        x.type(1);
        DUE.is("line", x.line(0, 0, 14), 13);
        DUE.is("the wide form first", x.piece(0, 3), 0);
        mark("a stretch moves no point", x, 0, 1, 0, 1, 5, 6, 0);
        mark("by the form's point", x, 1, 3, 1, 12, 7, 8, 0);
    }

    private static void loneMarks() {
        JoinSetter x = typed(script(5, 2, 6, 30), 1, 2, 0, 1);
        DUE.is("pieces", x.atHand(0), 3);
        DUE.is("marks", x.atHand(3), 1);
        DUE.is("width", x.atHand(1), 16);
        mark("lifted off a mark that is a piece", x, 0, 3, 2, 11, 30, 60, 25);
        DUE.is("depth of marks that are pieces", x.atHand(5), 9);
        DUE.is("first letter of a lone mark", x.piece(1, 1), 1);
    }

    private static void secondFormsOfMarks() {
        JoinSetter x = script(5, 2, 2, 1);
        x.form(1, 0, bits(50), 50, 50, 0);
        typed(x, 0, 1);
        mark("by its plain form", x, 0, 1, 0, 1, 5, 6, 0);
        x.remove(0);
        DUE.is("as a piece it has all forms", x.line(0, 0, 50), 0);
        DUE.is("its form", x.piece(0, 3), 4);
    }
}
