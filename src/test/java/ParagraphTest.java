/** Promises 28 to 32: paragraphs broken into lines, and pages made of these. */
public final class ParagraphTest {
    private static final Due DUE = new Due("ParagraphTest");

    private static int bits(int width) {
        return Float.floatToRawIntBits(width);
    }

    /** 0 alone of width 2 (form 0), 1 blank of width 1 (form 1) that stretches by 5, 2 mark above of height 4. */
    private static JoinSetter script() {
        JoinSetter x = new JoinSetter();
        x.letter(2);
        x.letter(6);
        x.letter(3);
        x.form(0, 0, bits(2), 3, 1, 0);
        x.form(1, 0, bits(1), 0, 0, 0);
        x.form(2, 0, bits(2), 4, 0, 0);
        x.stretch(1, 5, 1);
        return x;
    }

    private static JoinSetter words(int... lengths) {
        JoinSetter x = script();
        for (int length : lengths) {
            for (int k = 0; k < length; k++) {
                x.type(0);
            }
            x.type(1);
        }
        return x;
    }

    private static void lines(String name, JoinSetter x, int... counts) {
        DUE.is(name + ": how many", x.lines(-1, 0), counts.length);
        int first = 0;
        for (int k = 0; k < counts.length; k++) {
            DUE.is(name + ": first of line " + k, x.lines(k, 0), first);
            DUE.is(name + ": words of line " + k, x.lines(k, 1), counts[k]);
            first += counts[k];
        }
    }

    private static void pages(String name, JoinSetter x, int... counts) {
        DUE.is(name + ": how many", x.page(-1, 0), counts.length);
        int first = 0;
        for (int k = 0; k < counts.length; k++) {
            DUE.is(name + ": first of page " + k, x.page(k, 0), first);
            DUE.is(name + ": lines of page " + k, x.page(k, 1), counts[k]);
            first += counts[k];
        }
    }

    public static void main(String[] args) {
        refusals();
        oneLine();
        leastPrice();
        mostWordsFirst();
        lastLine();
        lastLineWider();
        latestStays();
        taken();
        heights();
        pageRefusals();
        onePage();
        firstAndLastLine();
        leastPages();
        mostLinesFirst();
        pagesStay();
        forty();
        DUE.end();
    }

    private static void refusals() {
        JoinSetter x = script();
        DUE.is("width 0", x.best(0), -2);
        DUE.is("width 301", x.best(301), -2);
        DUE.is("no words", x.best(300), -3);
        x.type(1);
        DUE.is("blanks alone", x.best(1), -3);
        x.type(0);
        DUE.is("too narrow", x.best(1), -5);
        DUE.is("none yet", x.lines(-1, 0), -3);
        DUE.is("state is ahead", x.lines(9, 9), -3);
        DUE.is("state is ahead", x.take(9), -3);
        DUE.is("just as wide", x.best(2), 0);
        DUE.is("how many, whatever what is", x.lines(-1, 99), 1);
        DUE.is("unknown", x.lines(1, 0), -1);
        DUE.is("unknown is ahead", x.lines(-2, 9), -1);
        DUE.is("outside", x.lines(0, 5), -2);
        DUE.is("outside", x.lines(0, -1), -2);
        DUE.is("take unknown", x.take(-1), -1);
        DUE.is("take unknown", x.take(1), -1);
    }

    private static void oneLine() {
        JoinSetter x = words(1, 2, 1);
        DUE.is("plain", x.best(300), 0);
        lines("one line", x, 3);
        DUE.is("its price", x.lines(0, 2), 0);
        DUE.is("its width", x.take(0), 10);
        DUE.is("blanks at the end are not in it", x.atHand(7), 6);
    }

    /** Words of widths 2 2 2 2 4: at 7, two words need 2 units more (4), three need 8. */
    private static void leastPrice() {
        JoinSetter x = words(1, 1, 1, 1, 2);
        DUE.is("at 7", x.best(7), 8);
        lines("at 7", x, 2, 2, 1);
        DUE.is("price", x.lines(0, 2), 4);
        DUE.is("price", x.lines(1, 2), 4);
        DUE.is("price", x.lines(2, 2), 0);
        DUE.is("at 8", x.best(8), 0);
        lines("at 8", x, 3, 2);
    }

    /** Both ways at price 3: three words then two in a line, or the other way about. */
    private static void mostWordsFirst() {
        JoinSetter x = words(1, 1, 1, 1, 1, 4);
        x.form(0, 0, bits(3), 3, 1, 1);
        DUE.is("at 8", x.best(8), 3);
        lines("the most words first", x, 3, 2, 1);
        DUE.is("of the first line", x.lines(0, 2), 0);
        DUE.is("of the second line", x.lines(1, 2), 3);
    }

    private static void lastLine() {
        JoinSetter x = words(1, 1);
        x.form(0, 0, bits(3), 3, 1, 1);
        x.letter(2);
        x.form(3, 0, bits(4), 3, 1, 9);
        x.type(3);
        DUE.is("a plain last line costs nothing", x.best(20), 0);
        DUE.is("its price", x.lines(0, 2), 0);
        DUE.is("as a line it has the price of its forms", x.take(0), 10);
        DUE.is("as a line it has the price of its forms", x.atHand(2), 9);
        DUE.is("and so has its witness", x.witness(16), 9);
        DUE.is("as wide as it may be", x.best(10), 0);
        lines("as wide as it may be", x, 3);
    }

    /** The last line is wider when plain, and filled by a narrower form. */
    private static void lastLineWider() {
        JoinSetter x = new JoinSetter();
        x.letter(2);
        x.letter(6);
        x.form(0, 0, bits(6), 3, 1, 0);
        x.form(0, 0, bits(4), 2, 1, 3);
        x.form(1, 0, bits(1), 0, 0, 0);
        x.type(0);
        x.type(1);
        x.type(0);
        DUE.is("filled", x.best(11), 3);
        lines("filled", x, 2);
        DUE.is("width", x.take(0), 11);
        DUE.is("the plain one first", x.piece(0, 3), 0);
        DUE.is("price", x.atHand(2), 3);
        DUE.is("no way", x.best(5), -5);
        DUE.is("two lines, filled both", x.best(4), 6);
        lines("two lines", x, 1, 1);
        DUE.is("price", x.lines(1, 2), 3);
        DUE.is("height", x.lines(1, 3), 2);
    }

    private static void latestStays() {
        JoinSetter x = words(1, 1, 1, 1, 2);
        x.best(8);
        DUE.is("no way", x.best(3), -5);
        lines("the latest one stays", x, 3, 2);
        DUE.is("outside", x.best(0), -2);
        lines("the latest one stays", x, 3, 2);
        DUE.is("its width, too", x.take(0), 8);
        x.line(0, 0, 300);
        lines("lines leave it", x, 3, 2);
        x.type(0);
        DUE.is("changed", x.lines(-1, 0), -3);
        DUE.is("changed", x.take(0), -3);
        DUE.is("no way", x.best(3), -5);
        DUE.is("still changed", x.lines(-1, 0), -3);
        x.undo();
        DUE.is("changed twice", x.lines(-1, 0), -3);
    }

    private static void taken() {
        JoinSetter x = words(1, 1, 1, 1, 2);
        DUE.is("a line at hand", x.line(4, 4, 4), 0);
        DUE.is("best", x.best(7), 8);
        DUE.is("the line at hand stays", x.atHand(6), 8);
        DUE.is("take", x.take(1), 7);
        DUE.is("first letter", x.atHand(6), 4);
        DUE.is("price", x.atHand(2), 4);
        DUE.is("pieces", x.atHand(0), 3);
        DUE.is("its blank", x.piece(1, 4), 2);
        DUE.is("take", x.take(2), 4);
        DUE.is("first letter", x.atHand(6), 8);
        DUE.is("unknown", x.take(3), -1);
        DUE.is("it stays", x.atHand(6), 8);
    }

    private static void heights() {
        JoinSetter x = script();
        for (int letter : new int[] {0, 2, 1, 0, 1, 0, 2, 2}) {
            x.type(letter);
        }
        DUE.is("best", x.best(5), 0);
        lines("best", x, 2, 1);
        DUE.is("height", x.lines(0, 3), 7);
        DUE.is("depth", x.lines(0, 4), 1);
        DUE.is("height", x.lines(1, 3), 11);
        DUE.is("depth", x.lines(1, 4), 1);
    }

    private static void pageRefusals() {
        JoinSetter x = words(1, 1, 1, 1);
        DUE.is("outside is ahead of state", x.pages(0), -2);
        DUE.is("outside is ahead of state", x.pages(2001), -2);
        DUE.is("state", x.pages(1), -3);
        x.best(2);
        DUE.is("none yet", x.page(-1, 0), -3);
        DUE.is("state is ahead", x.page(9, 9), -3);
        DUE.is("too low", x.pages(3), -5);
        DUE.is("none yet", x.page(-1, 0), -3);
        DUE.is("all of it", x.pages(2000), 0);
        DUE.is("how many", x.page(-1, 99), 1);
        DUE.is("unknown", x.page(1, 0), -1);
        DUE.is("unknown is ahead", x.page(-2, 9), -1);
        DUE.is("outside", x.page(0, 3), -2);
        DUE.is("outside", x.page(0, -1), -2);
    }

    private static void onePage() {
        JoinSetter x = words(1);
        x.best(2);
        DUE.is("one line alone may begin and end a page", x.pages(4), 0);
        pages("one line", x, 1);
        DUE.is("what is left", x.page(0, 2), 0);
        DUE.is("higher", x.pages(9), 0);
        DUE.is("what is left", x.page(0, 2), 5);
        DUE.is("too low", x.pages(3), -5);
        DUE.is("the latest ones stay", x.page(0, 2), 5);
    }

    /** Lines of height 4 in all. */
    private static void firstAndLastLine() {
        JoinSetter two = words(1, 1);
        two.best(2);
        DUE.is("two lines can't be parted", two.pages(7), -5);
        DUE.is("two lines", two.pages(8), 0);
        pages("two lines", two, 2);
        JoinSetter three = words(1, 1, 1);
        three.best(2);
        DUE.is("three lines can't be parted", three.pages(11), -5);
        DUE.is("three lines", three.pages(12), 0);
        JoinSetter four = words(1, 1, 1, 1);
        four.best(2);
        DUE.is("four lines", four.pages(15), 49);
        pages("four lines", four, 2, 2);
        DUE.is("left", four.page(0, 2), 7);
        DUE.is("left", four.page(1, 2), 7);
        JoinSetter five = words(1, 1, 1, 1, 1);
        five.best(2);
        DUE.is("five lines", five.pages(8), 16);
        pages("five lines", five, 2, 1, 2);
    }

    private static JoinSetter towers() {
        JoinSetter x = script();
        int[] marks = {0, 0, 0, 1, 0, 0, 0};
        for (int count : marks) {
            x.type(0);
            for (int k = 0; k < count; k++) {
                x.type(2);
            }
            x.type(1);
        }
        x.best(2);
        return x;
    }

    /** Heights 4 4 4 8 4 4 4. */
    private static void leastPages() {
        JoinSetter x = towers();
        DUE.is("lines", x.lines(-1, 0), 7);
        DUE.is("at 12", x.pages(12), 0);
        pages("at 12", x, 3, 2, 2);
        DUE.is("left on the last page", x.page(2, 2), 4);
        DUE.is("at 16, the last line may not be alone", x.pages(16), 32);
        pages("at 16", x, 3, 2, 2);
    }

    private static void mostLinesFirst() {
        JoinSetter x = words(1, 1, 1, 1, 1, 1, 1);
        x.best(2);
        DUE.is("at 13", x.pages(13), 26);
        pages("at 13", x, 3, 2, 2);
        DUE.is("left", x.page(0, 2), 1);
        DUE.is("left", x.page(1, 2), 5);
        DUE.is("left", x.page(2, 2), 5);
    }

    private static void pagesStay() {
        JoinSetter x = words(1, 1, 1, 1, 2);
        x.best(8);
        x.pages(9);
        DUE.is("pages", x.page(-1, 0), 1);
        DUE.is("no way", x.best(3), -5);
        DUE.is("they stay", x.page(-1, 0), 1);
        DUE.is("another best", x.best(7), 8);
        DUE.is("there are none", x.page(-1, 0), -3);
        DUE.is("again", x.pages(12), 0);
        x.insert(0, 1);
        DUE.is("changed", x.page(-1, 0), -3);
        DUE.is("changed", x.pages(12), -3);
    }

    private static void forty() {
        JoinSetter x = script();
        for (int k = 0; k < 80; k++) {
            x.type(k % 2);
        }
        DUE.is("a word a line", x.best(2), 0);
        DUE.is("forty", x.lines(-1, 0), 40);
        DUE.is("two words a line", x.best(5), 0);
        DUE.is("twenty", x.lines(-1, 0), 20);
        DUE.is("pages", x.pages(8), 0);
        DUE.is("ten", x.page(-1, 0), 10);
        DUE.is("one line", x.best(119), 0);
        DUE.is("one", x.lines(-1, 0), 1);
        DUE.is("one less wide", x.best(118), 2);
        lines("one less wide", x, 39, 1);
    }
}
