/** Promises 9 to 15: the text, its edits, words and shapes. */
public final class TypedTest {
    private static final Due DUE = new Due("TypedTest");

    /** 0, 1 joining, 2 after, 3 alone, 4 mark above, 5 mark below, 6 digit, 7 blank, 8 must of 0 1, 9 may of 0 0. */
    private static JoinSetter script() {
        JoinSetter x = new JoinSetter();
        x.letter(0);
        for (int sort = 0; sort <= 6; sort++) {
            x.letter(sort);
        }
        x.ligature(0, 1, -1, true);
        x.ligature(0, 0, -1, false);
        return x;
    }

    private static JoinSetter typed(int... letters) {
        JoinSetter x = script();
        for (int letter : letters) {
            x.type(letter);
        }
        return x;
    }

    public static void main(String[] args) {
        types();
        inserts();
        removes();
        full();
        undoes();
        fortyAreKept();
        undoOrder();
        words();
        wordShapes();
        placeShapes();
        markShapes();
        mustShapes();
        plainFormShapes();
        longestMust();
        DUE.end();
    }

    private static void types() {
        JoinSetter x = script();
        DUE.is("unknown", x.type(10), -1);
        DUE.is("unknown", x.type(-1), -1);
        DUE.is("a ligature", x.type(8), -5);
        DUE.is("one", x.type(3), 1);
        DUE.is("two", x.type(7), 2);
        DUE.is("text(0)", x.text(0), 3);
        DUE.is("text(1)", x.text(1), 7);
        DUE.is("text(2)", x.text(2), -6);
        DUE.is("text(-1)", x.text(-1), -6);
        DUE.is("told(3)", x.told(3), 2);
        DUE.is("told(4)", x.told(4), 2);
    }

    private static void inserts() {
        JoinSetter x = typed(0, 1);
        DUE.is("unknown", x.insert(0, 10), -1);
        DUE.is("unknown is ahead of outside", x.insert(9, 10), -1);
        DUE.is("outside", x.insert(-1, 0), -2);
        DUE.is("outside", x.insert(3, 0), -2);
        DUE.is("outside is ahead of no", x.insert(3, 8), -2);
        DUE.is("a ligature", x.insert(0, 9), -5);
        DUE.is("at the end", x.insert(2, 2), 3);
        DUE.is("ahead of all", x.insert(0, 3), 4);
        DUE.is("within", x.insert(2, 4), 5);
        int[] want = {3, 0, 4, 1, 2};
        for (int i = 0; i < 5; i++) {
            DUE.is("text " + i, x.text(i), want[i]);
        }
    }

    private static void removes() {
        JoinSetter x = typed(0, 1, 2);
        DUE.is("outside", x.remove(-1), -2);
        DUE.is("outside", x.remove(3), -2);
        DUE.is("the middle", x.remove(1), 1);
        DUE.is("the last", x.remove(1), 2);
        DUE.is("the first", x.remove(0), 0);
        DUE.is("none left", x.remove(0), -2);
        DUE.is("told(3)", x.told(3), 0);
        DUE.is("told(4)", x.told(4), 6);
    }

    private static void full() {
        JoinSetter x = script();
        for (int k = 1; k <= 80; k++) {
            DUE.is("type " + k, x.type(k % 7), k);
        }
        DUE.is("one too many", x.type(0), -4);
        DUE.is("one too many", x.insert(0, 0), -4);
        DUE.is("full is ahead of no", x.type(8), -4);
        DUE.is("full is ahead of no", x.insert(80, 8), -4);
        DUE.is("unknown is ahead of full", x.type(99), -1);
        DUE.is("outside is ahead of full", x.insert(81, 0), -2);
        DUE.is("remove(79)", x.remove(79), 80 % 7);
        DUE.is("room again", x.insert(0, 5), 80);
        DUE.is("pushed", x.text(1), 1);
        DUE.is("the last one", x.text(79), 79 % 7);
        DUE.is("undo", x.undo(), 79);
        DUE.is("undo", x.undo(), 80);
        DUE.is("the last one again", x.text(79), 80 % 7);
    }

    private static void undoes() {
        JoinSetter x = typed(0, 1, 2);
        x.remove(1);
        DUE.is("undo a remove", x.undo(), 3);
        DUE.is("it is back", x.text(1), 1);
        x.insert(1, 6);
        DUE.is("undo an insert", x.undo(), 3);
        DUE.is("it is gone", x.text(1), 1);
        DUE.is("refused edits do not count", x.type(99), -1);
        DUE.is("refused edits do not count", x.remove(99), -2);
        DUE.is("told(4)", x.told(4), 3);
        DUE.is("undo a type", x.undo(), 2);
        DUE.is("undo a type", x.undo(), 1);
        DUE.is("undo a type", x.undo(), 0);
        DUE.is("none", x.undo(), -3);
        DUE.is("told(4)", x.told(4), 0);
        DUE.is("an undo is no edit", x.type(0), 1);
        DUE.is("told(4)", x.told(4), 1);
    }

    private static void fortyAreKept() {
        JoinSetter x = script();
        for (int k = 0; k < 45; k++) {
            x.type(k % 7);
        }
        DUE.is("told(4)", x.told(4), 40);
        for (int k = 44; k >= 5; k--) {
            DUE.is("undo " + k, x.undo(), k);
        }
        DUE.is("no more", x.undo(), -3);
        DUE.is("told(3)", x.told(3), 5);
        for (int i = 0; i < 5; i++) {
            DUE.is("text " + i, x.text(i), i);
        }
        DUE.is("type goes on", x.type(0), 6);
        DUE.is("and is undone", x.undo(), 5);
        DUE.is("and no more", x.undo(), -3);
    }

    private static void undoOrder() {
        JoinSetter x = typed(0, 1, 2, 3);
        x.remove(0);
        x.insert(2, 6);
        x.remove(3);
        int[][] want = {{1, 2, 6, 3}, {1, 2, 3}, {0, 1, 2, 3}, {0, 1, 2}};
        for (int[] text : want) {
            DUE.is("undo", x.undo(), text.length);
            for (int i = 0; i < text.length; i++) {
                DUE.is("text " + i, x.text(i), text[i]);
            }
        }
    }

    private static void words() {
        DUE.is("no text", typed().words(), 0);
        DUE.is("blanks alone", typed(7, 7).words(), 0);
        DUE.is("one", typed(0).words(), 1);
        DUE.is("blanks about", typed(7, 0, 7, 7).words(), 1);
        DUE.is("two, two blanks", typed(0, 7, 7, 1).words(), 2);
        DUE.is("a mark alone", typed(0, 7, 4, 7, 6).words(), 3);
        JoinSetter x = script();
        for (int k = 0; k < 80; k++) {
            x.type(k % 2 == 0 ? 3 : 7);
        }
        DUE.is("forty", x.words(), 40);
        x.remove(1);
        DUE.is("two in one", x.words(), 39);
        x.undo();
        DUE.is("forty again", x.words(), 40);
    }

    private static void shapes(String name, JoinSetter x, int what, int... want) {
        for (int i = 0; i < want.length; i++) {
            DUE.is(name + ": shape(" + i + ", " + what + ")", x.shape(i, what), want[i]);
        }
    }

    private static void wordShapes() {
        JoinSetter x = typed(7, 0, 4, 7, 7, 5, 2, 7);
        shapes("words", x, 0, -6, 0, 0, -6, -6, 1, 1, -6);
        shapes("words", x, 1, 0, 1, 1, 3, 4, 5, 6, 7);
        shapes("words", x, 2, 7, 0, 0, 7, 7, 5, 2, 7);
        DUE.is("unknown", x.shape(8, 0), -1);
        DUE.is("unknown", x.shape(-1, 9), -1);
        DUE.is("outside", x.shape(0, 5), -2);
        DUE.is("outside", x.shape(0, -1), -2);
    }

    private static void placeShapes() {
        shapes("joining", typed(1, 1, 1, 7, 1, 7, 1, 0), 3, 1, 2, 3, 0, 0, 0, 1, 3);
        shapes("after", typed(1, 2, 1, 2, 2), 3, 1, 3, 1, 3, 0);
        shapes("alone", typed(1, 3, 1, 6, 1, 1), 3, 0, 0, 0, 0, 1, 3);
    }

    private static void markShapes() {
        JoinSetter x = typed(4, 5, 1, 4, 5, 1, 5, 2, 4);
        shapes("marks", x, 1, 0, 1, 2, 2, 2, 5, 5, 7, 7);
        shapes("marks", x, 2, 4, 5, 1, 1, 1, 1, 1, 2, 2);
        shapes("marks", x, 3, 0, 0, 1, 1, 1, 2, 2, 3, 3);
    }

    private static void mustShapes() {
        JoinSetter x = typed(1, 0, 4, 1, 5, 0, 0, 1);
        shapes("must", x, 1, 0, 1, 1, 1, 1, 5, 6, 6);
        shapes("must", x, 2, 1, 8, 8, 8, 8, 0, 8, 8);
        shapes("must", x, 3, 1, 2, 2, 2, 2, 2, 3, 3);
        x.ligature(0, 0, -1, true);
        shapes("may are not shown", typed(0, 0, 0), 2, 0, 0, 0);
    }

    private static void plainFormShapes() {
        JoinSetter x = typed(0, 1, 4, 7, 3);
        shapes("no forms", x, 4, -6, -6, -6, -6, -6);
        int one = Float.floatToRawIntBits(1);
        x.form(0, 0, one, 0, 0, 0);
        x.form(4, 0, one, 0, 0, 0);
        x.form(8, 1, one, 0, 0, 0);
        shapes("wrong forms", x, 4, -6, -6, -6, -6, -6);
        x.form(8, 0, one, 0, 0, 0);
        x.form(8, 0, one, 0, 0, 0);
        x.form(7, 0, one, 0, 0, 0);
        shapes("forms", x, 4, 3, 3, 3, 5, -6);
    }

    private static void longestMust() {
        JoinSetter x = script();
        x.ligature(0, 1, 0, true);
        for (int letter : new int[] {0, 1, 0, 1, 2}) {
            x.type(letter);
        }
        shapes("longest", x, 2, 10, 10, 10, 1, 2);
        x.remove(2);
        shapes("the shorter one", x, 2, 8, 8, 1, 2);
    }
}
