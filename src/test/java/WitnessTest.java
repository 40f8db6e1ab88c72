/** Promises 24 to 27: witnesses, what is claimed, and how it is checked. */
public final class WitnessTest {
    private static final Due DUE = new Due("WitnessTest");

    private static int bits(int width) {
        return Float.floatToRawIntBits(width);
    }

    /**
     * 0 joining (forms 0 to 3, 4 the second one alone), 1 blank (form 5), 2 mark above (form 6), 3 may of 0 0 (form 7
     * alone), 4 must of 0 0 0 (form 8 alone); the blank and forms 1 and 3 stretch.
     */
    private static JoinSetter script() {
        JoinSetter x = new JoinSetter();
        x.letter(0);
        x.letter(6);
        x.letter(3);
        x.ligature(0, 0, -1, false);
        x.ligature(0, 0, 0, true);
        for (int place = 0; place < 4; place++) {
            x.form(0, place, bits(2), 3, 1, place);
        }
        x.form(0, 0, bits(3), 3, 1, 0);
        x.form(1, 0, bits(1), 0, 0, 0);
        x.form(2, 0, bits(2), 1, 0, 0);
        x.form(3, 0, bits(5), 4, 4, 2);
        x.form(4, 0, bits(7), 5, 5, 3);
        x.stretch(1, 2, 1);
        x.stretch(3, 2, 1);
        x.stretch(5, 4, 1);
        return x;
    }

    private static JoinSetter typed(int... letters) {
        JoinSetter x = script();
        for (int letter : letters) {
            x.type(letter);
        }
        return x;
    }

    private static void claimAll(JoinSetter x, int... numbers) {
        x.drop();
        for (int v : numbers) {
            x.claim(v);
        }
    }

    private static void check(String name, JoinSetter x, int due, int... numbers) {
        claimAll(x, numbers);
        DUE.is(name, x.check(0, x.words() - 1), due);
    }

    public static void main(String[] args) {
        witnesses();
        claims();
        refusals();
        eachNumber();
        lettersOfPieces();
        stretches();
        bars();
        handIsSet();
        marks();
        longest();
        DUE.end();
    }

    private static void witnesses() {
        JoinSetter x = typed(0, 0, 1, 0, 2);
        DUE.is("state", x.witness(0), -3);
        DUE.is("state is ahead", x.witness(-1), -3);
        int[] want = {1, 1, 0, 1, 3, 0, 1, 5, 0, 1, 0, 0, 7, 4};
        DUE.is("line", x.line(0, 1, 7), 4);
        for (int i = 0; i < want.length; i++) {
            DUE.is("witness " + i, x.witness(i), want[i]);
        }
        DUE.is("no more", x.witness(want.length), -6);
        DUE.is("none", x.witness(-1), -6);
        DUE.is("by a ligature", x.line(0, 1, 10), 3);
        int[] ligature = {2, 7, 0, 1, 5, 1, 1, 4, 0, 10, 3};
        for (int i = 0; i < ligature.length; i++) {
            DUE.is("witness " + i, x.witness(i), ligature[i]);
        }
        DUE.is("no more", x.witness(11), -6);
        JoinSetter y = typed(0, 0, 0);
        y.plain(0, 0);
        DUE.is("of three", y.witness(0), 3);
    }

    private static void claims() {
        JoinSetter x = script();
        DUE.is("none", x.drop(), 0);
        for (int k = 1; k <= 260; k++) {
            DUE.is("claim " + k, x.claim(-k), k);
        }
        DUE.is("one too many", x.claim(0), -4);
        DUE.is("told(5)", x.told(5), 260);
        DUE.is("dropped", x.drop(), 260);
        DUE.is("told(5)", x.told(5), 0);
        DUE.is("again", x.claim(Integer.MAX_VALUE), 1);
    }

    private static void refusals() {
        JoinSetter x = typed(0, 1, 0);
        DUE.is("unknown", x.check(-1, 0), -1);
        DUE.is("unknown", x.check(0, 2), -1);
        DUE.is("unknown", x.check(1, 0), -1);
        DUE.is("nothing is claimed", x.check(0, 0), -100);
        JoinSetter lacking = typed(0, 1, 0);
        lacking.letter(4);
        lacking.type(5);
        claimAll(lacking, 1, 0, 0, 2, 0);
        DUE.is("unknown is ahead of no", lacking.check(0, 3), -1);
        DUE.is("a mark lacks a form", lacking.check(1, 1), -5);
        DUE.is("a mark lacks a form", lacking.check(0, 1), -5);
        DUE.is("not in this word", lacking.check(0, 0), 1);
        lacking.type(1);
        lacking.type(5);
        DUE.is("a mark that is a piece has the claim's form lacking", lacking.check(2, 2), -101);
    }

    private static void eachNumber() {
        JoinSetter x = typed(0, 1, 0);
        check("width", x, -109, 1, 0, 0, 1, 5, 2, 1, 4, 0, 9, 4);
        check("right", x, 1, 1, 0, 0, 1, 5, 2, 1, 4, 0, 8, 4);
        check("price", x, -110, 1, 0, 0, 1, 5, 2, 1, 4, 0, 8, 5);
        check("one too many", x, -111, 1, 0, 0, 1, 5, 2, 1, 4, 0, 8, 4, 0);
        check("two too many", x, -111, 1, 0, 0, 1, 5, 2, 1, 4, 0, 8, 4, 0, 0);
        check("no price", x, -110, 1, 0, 0, 1, 5, 2, 1, 4, 0, 8);
        check("no width", x, -109, 1, 0, 0, 1, 5, 2, 1, 4, 0);
        check("no stretch", x, -108, 1, 0, 0, 1, 5, 2, 1, 4);
        check("no form", x, -107, 1, 0, 0, 1, 5, 2, 1);
        check("no letters", x, -106, 1, 0, 0, 1, 5, 2);
        check("letters 2", x, -106, 1, 0, 0, 1, 5, 2, 2, 4, 0, 8, 4);
        check("letters 0", x, -100, 0, 0, 0, 1, 5, 2, 1, 4, 0, 8, 4);
        check("letters -1", x, -103, 1, 0, 0, -1, 5, 2, 1, 4, 0, 8, 4);
        check("form of another place", x, -107, 1, 0, 0, 1, 5, 2, 1, 1, 0, 8, 4);
        check("form of another letter", x, -104, 1, 0, 0, 1, 0, 2, 1, 4, 0, 8, 4);
        check("no such form", x, -101, 1, 9, 0, 1, 5, 2, 1, 4, 0, 8, 4);
        check("no such form", x, -101, 1, -1, 0, 1, 5, 2, 1, 4, 0, 8, 4);
        check("stretch above its most", x, -105, 1, 0, 0, 1, 5, 5, 1, 4, 0, 11, 25);
        check("stretch below 0", x, -105, 1, 0, 0, 1, 5, -1, 1, 4, 0, 5, 1);
        check("stretch of one that has none", x, -102, 1, 0, 1, 1, 5, 2, 1, 4, 0, 9, 5);
        check("the first wrong one counts", x, -101, 1, 7, 7, 7, 7, 7);
    }

    private static void lettersOfPieces() {
        JoinSetter two = typed(0, 0);
        check("may", two, 1, 2, 7, 0, 5, 2);
        check("alone", two, 1, 1, 1, 0, 1, 3, 0, 4, 4);
        check("may, a form of its letter", two, -101, 2, 0, 0, 5, 2);
        check("three", two, -100, 3, 8, 0, 7, 3);
        JoinSetter three = typed(0, 0, 0);
        check("must", three, 1, 3, 8, 0, 7, 3);
        check("must is not split", three, -100, 1, 1, 0, 1, 2, 0, 1, 3, 0, 6, 6);
        check("must is not split by may", three, -100, 2, 7, 0, 1, 3, 0);
        JoinSetter five = typed(0, 0, 0, 0, 0);
        check("must, then may lacks a form", five, -101, 3, 8, 0);
    }

    private static void stretches() {
        JoinSetter x = typed(0, 0, 1, 0, 0);
        check("one in each word, and the blank", x, 1, 1, 1, 2, 1, 3, 0, 1, 5, 4, 1, 1, 0, 1, 3, 2, 17, 32);
        check("two in a word", x, -105, 1, 1, 1, 1, 3, 1, 1, 5, 0, 1, 1, 0, 1, 3, 0, 11, 10);
        check("two in the second word", x, -114, 1, 1, 0, 1, 3, 1, 1, 5, 0, 1, 1, 1, 1, 3, 2, 13, 10);
    }

    private static void bars() {
        JoinSetter x = typed(0, 0, 1, 0, 0);
        x.bar(1, true);
        check("behind a barred blank", x, 1, 1, 1, 0, 1, 3, 1, 1, 5, 0, 1, 1, 1, 1, 3, 0, 11, 10);
        x.bar(0, true);
        check("behind a barred letter", x, -105, 1, 1, 0, 1, 3, 1, 1, 5, 0, 1, 1, 1, 1, 3, 0, 11, 10);
        check("a word's first one", x, 1, 1, 1, 1, 1, 3, 0, 1, 5, 1, 1, 1, 1, 1, 3, 0, 12, 11);
    }

    private static void handIsSet() {
        JoinSetter x = typed(0, 1, 0);
        x.plain(1, 1);
        check("wrong", x, -110, 1, 0, 0, 1, 5, 2, 1, 4, 0, 8, 5);
        DUE.is("the line stays", x.atHand(6), 2);
        check("right", x, 1, 1, 0, 0, 1, 5, 2, 1, 4, 0, 8, 4);
        DUE.is("it is at hand", x.atHand(0), 3);
        DUE.is("its width", x.atHand(1), 8);
        DUE.is("its price", x.atHand(2), 4);
        DUE.is("its last piece", x.piece(2, 5), 5);
        DUE.is("what is claimed stays", x.told(5), 11);
        DUE.is("once more", x.check(0, 1), 1);
        x.type(0);
        DUE.is("changed", x.atHand(0), -3);
        DUE.is("claimed still", x.told(5), 11);
    }

    private static void marks() {
        JoinSetter x = typed(2, 0, 2, 0, 2);
        check("a mark that is a piece", x, 1, 1, 6, 0, 2, 7, 0, 7, 2);
        DUE.is("marks", x.atHand(3), 2);
        DUE.is("the first one's bottom", x.mark(0, 3), 4);
        DUE.is("the second one's bottom", x.mark(1, 3), 5);
    }

    /** 80 pieces: 242 numbers. */
    private static void longest() {
        JoinSetter x = new JoinSetter();
        x.letter(2);
        x.form(0, 0, bits(100), 0, 0, 1000);
        for (int k = 0; k < 80; k++) {
            x.type(0);
            x.claim(1);
            x.claim(0);
            x.claim(0);
        }
        x.claim(8000);
        DUE.is("numbers", x.claim(80000), 242);
        DUE.is("check", x.check(0, 0), 1);
        DUE.is("width", x.witness(240), 8000);
        DUE.is("price", x.witness(241), 80000);
        DUE.is("no more", x.witness(242), -6);
    }
}
