import java.util.Arrays;

/** A setter of scripts whose letters join. ../shared/DOC.md says what every call answers. */
public final class JoinSetter {
    public static final int UNKNOWN = -1, OUTSIDE = -2, STATE = -3, FULL = -4, NO = -5, NONE = -6;

    private static final int MOST_LETTERS = 60, MOST_LIGATURES = 8, MOST_FORMS = 200, FORMS_EACH = 3;
    private static final int MOST_TYPED = 80, MOST_UNDONE = 40, MOST_CLAIMED = 260;
    private static final int WIDEST_FORM = 100, TALLEST_FORM = 100, DEAREST_FORM = 1000;
    private static final int MOST_STRETCH = 12, GREATEST_FACTOR = 50;
    private static final int WIDEST_LINE = 300, TALLEST_PAGE = 2000, MOST_LIFTS = 300;
    /** A mark's numbers may be below 0, and so may be a check's: their refusals lie further down. */
    private static final int BELOW_MARKS = -100000, BELOW_CHECKS = -100;

    private static final int JOINING = 0, AFTER = 1, MARK_ABOVE = 3, MARK_BELOW = 4, DIGIT = 5, BLANK = 6,
            LIGATURE = 7;
    /** The places; a letter's places are numbered 0 to 3. */
    private static final int ALONE = 0, FIRST = 1, MIDDLE = 2, LAST = 3, PLACES = 4;
    /** What about() tells of a form, by its number there. */
    private static final int OF_LETTER = 0, OF_PLACE = 1, WIDTH = 2, HEIGHT = 3, DEPTH = 4, PRICE = 5, POINT = 6,
            MOST = 7, FACTOR = 8, FACTS = 9;
    /** Above every price, and far enough from the greatest int that a price can be added. */
    private static final int NEVER = 1 << 29;

    private final Script script = new Script();
    private final Typed typed = new Typed();
    private final Claims claims = new Claims();
    private final Units units = new Units(script, typed);
    private final Filler filler = new Filler(script, units);
    private final Paragraph paragraph = new Paragraph(units, filler);
    private final Pages sheets = new Pages(paragraph);
    private Line hand = new Line(script, units);
    private Line spare = new Line(script, units);

    /** Counts the changes of script and text: what was found holds only while this stays. */
    private int changes = 0;
    private int unitsAt = NONE, handAt = NONE, nearAt = NONE, bestAt = NONE, pagesAt = NONE;
    private int nearBelow = NONE, nearAbove = NONE;

    public JoinSetter() {
    }

    // ---- 1 the script

    public int letter(int sort) {
        if (sort < JOINING || sort > BLANK) {
            return OUTSIDE;
        }
        if (script.letters >= MOST_LETTERS) {
            return FULL;
        }
        changes++;
        return script.addLetter(sort, sort, 1);
    }

    public int ligature(int x, int y, int z, boolean must) {
        boolean ofTwo = z == -1;
        if (!script.knows(x) || !script.knows(y) || (!ofTwo && !script.knows(z))) {
            return UNKNOWN;
        }
        if (!script.canJoinUp(x, y, z)) {
            return OUTSIDE;
        }
        if (script.ligatures >= MOST_LIGATURES || script.letters >= MOST_LETTERS) {
            return FULL;
        }
        if (script.hasLigature(x, y, z)) {
            return NO;
        }
        changes++;
        return script.addLigature(x, y, z, must);
    }

    public int form(int letter, int place, int width, int height, int depth, int price) {
        if (!script.knows(letter)) {
            return UNKNOWN;
        }
        int whole = wholeWidth(width);
        if (!script.canHave(letter, place) || !within(whole, 1, WIDEST_FORM) || !within(height, 0, TALLEST_FORM)
                || !within(depth, 0, TALLEST_FORM) || !within(price, 0, DEAREST_FORM)) {
            return OUTSIDE;
        }
        if (script.forms >= MOST_FORMS || script.formsOf(letter, place) >= FORMS_EACH) {
            return FULL;
        }
        changes++;
        int form = script.addForm(letter, place);
        int[] facts = script.facts[form];
        facts[WIDTH] = whole;
        facts[HEIGHT] = height;
        facts[DEPTH] = depth;
        facts[PRICE] = price;
        facts[POINT] = whole / 2;
        return form;
    }

    public int stretch(int form, int most, int factor) {
        if (!script.knowsForm(form)) {
            return UNKNOWN;
        }
        if (!within(most, 0, MOST_STRETCH) || !within(factor, 0, GREATEST_FACTOR)) {
            return OUTSIDE;
        }
        if (script.isMark(script.facts[form][OF_LETTER])) {
            return NO;
        }
        changes++;
        script.facts[form][MOST] = most;
        script.facts[form][FACTOR] = factor;
        return 1;
    }

    public int point(int form, int x) {
        if (!script.knowsForm(form)) {
            return UNKNOWN;
        }
        if (!within(x, 0, script.facts[form][WIDTH])) {
            return OUTSIDE;
        }
        changes++;
        script.facts[form][POINT] = x;
        return 1;
    }

    public int bar(int letter, boolean on) {
        if (!script.knows(letter)) {
            return UNKNOWN;
        }
        changes++;
        boolean was = script.barred[letter];
        script.barred[letter] = on;
        return was ? 1 : 0;
    }

    public int about(int form, int what) {
        if (!script.knowsForm(form)) {
            return UNKNOWN;
        }
        return within(what, 0, FACTS - 1) ? script.facts[form][what] : OUTSIDE;
    }

    // ---- 2 the text

    public int type(int letter) {
        return insert(typed.count, letter);
    }

    public int insert(int i, int letter) {
        if (!script.knows(letter)) {
            return UNKNOWN;
        }
        if (!within(i, 0, typed.count)) {
            return OUTSIDE;
        }
        if (typed.count >= MOST_TYPED) {
            return FULL;
        }
        if (script.sort[letter] == LIGATURE) {
            return NO;
        }
        changes++;
        typed.putIn(i, letter);
        typed.remember(i, NONE);
        return typed.count;
    }

    public int remove(int i) {
        if (!typed.has(i)) {
            return OUTSIDE;
        }
        changes++;
        int letter = typed.takeOut(i);
        typed.remember(i, letter);
        return letter;
    }

    public int undo() {
        if (typed.edits == 0) {
            return STATE;
        }
        changes++;
        typed.undoLatest();
        return typed.count;
    }

    public int text(int i) {
        return typed.has(i) ? typed.letters[i] : NONE;
    }

    public int shape(int i, int what) {
        if (!typed.has(i)) {
            return UNKNOWN;
        }
        if (!within(what, 0, 4)) {
            return OUTSIDE;
        }
        lookAtText();
        int unit = units.beginning[units.unitOf[i]];
        int letter = units.base(unit);
        switch (what) {
            case 0:
                return units.word[unit];
            case 1:
                return units.at[unit];
            case 2:
                return letter;
            case 3:
                return units.placeOf(unit, letter);
            default:
                return script.plainForm(letter, units.placeOf(unit, letter));
        }
    }

    public int words() {
        lookAtText();
        return units.words;
    }

    // ---- 3 lines

    public int line(int i, int j, int width) {
        lookAtText();
        if (!units.hasWords(i, j)) {
            return UNKNOWN;
        }
        if (!within(width, 0, WIDEST_LINE)) {
            return OUTSIDE;
        }
        int from = units.wordFrom[i];
        // all widths are looked at, for near()
        filler.beginBehind(units.wordTo[j], WIDEST_LINE);
        filler.goBack(from, units.wordTo[j]);
        nearAt = changes;
        nearBelow = filler.nextWidth(from, width, -1);
        nearAbove = filler.nextWidth(from, width, 1);
        int price = filler.leastPrice(from, width);
        if (price >= NEVER) {
            handAt = NONE;
            return NO;
        }
        filler.trace(from, width, spare);
        takeSpare();
        return price;
    }

    public int near(int side) {
        if (!within(side, 0, 1)) {
            return OUTSIDE;
        }
        if (nearAt != changes) {
            return STATE;
        }
        return side == 0 ? nearBelow : nearAbove;
    }

    public int plain(int i, int j) {
        lookAtText();
        if (!units.hasWords(i, j)) {
            return UNKNOWN;
        }
        if (units.plainWidth(units.wordFrom[i], units.wordTo[j]) == NONE) {
            return NO;
        }
        spare.setPlain(units.wordFrom[i], units.wordTo[j]);
        takeSpare();
        return hand.width;
    }

    public int atHand(int what) {
        if (!within(what, 0, 7)) {
            return OUTSIDE;
        }
        if (handAt != changes) {
            return STATE;
        }
        switch (what) {
            case 0:
                return hand.boxes.count;
            case 1:
                return hand.width;
            case 2:
                return hand.price;
            case 3:
                return hand.marks.boxes.count;
            case 4:
                return hand.height();
            case 5:
                return hand.depth();
            case 6:
                return hand.firstTyped;
            default:
                return hand.lastTyped - hand.firstTyped + 1;
        }
    }

    public int piece(int k, int what) {
        if (handAt != changes) {
            return STATE;
        }
        if (!within(k, 0, hand.boxes.count - 1)) {
            return UNKNOWN;
        }
        switch (what) {
            case 0:
                return hand.letter[k];
            case 1:
                return units.at[hand.unit[k]];
            case 2:
                return units.placeOf(hand.unit[k], hand.letter[k]);
            case 3:
                return hand.form[k];
            case 4:
                return hand.stretched[k];
            case 5:
                return hand.boxes.left[k];
            default:
                return OUTSIDE;
        }
    }

    public int mark(int k, int what) {
        if (handAt != changes) {
            return BELOW_MARKS + STATE;
        }
        Marks marks = hand.marks;
        if (!within(k, 0, marks.boxes.count - 1)) {
            return BELOW_MARKS + UNKNOWN;
        }
        switch (what) {
            case 0:
                return marks.at[k];
            case 1:
                return marks.on[k];
            case 2:
                return marks.boxes.left[k];
            case 3:
                return marks.boxes.bottom[k];
            case 4:
                return marks.boxes.top[k];
            case 5:
                return marks.lifted[k];
            default:
                return BELOW_MARKS + OUTSIDE;
        }
    }

    public int seen(int k) {
        if (handAt != changes) {
            return STATE;
        }
        if (!within(k, 0, hand.lastTyped - hand.firstTyped)) {
            return UNKNOWN;
        }
        return mirrored(hand.lastTyped - k);
    }

    public int place(int i) {
        if (handAt != changes) {
            return STATE;
        }
        if (!within(i, hand.firstTyped, hand.lastTyped)) {
            return UNKNOWN;
        }
        return hand.lastTyped - mirrored(i);
    }

    // ---- 4 witnesses

    public int witness(int i) {
        if (handAt != changes) {
            return STATE;
        }
        int ofPieces = 3 * hand.boxes.count;
        if (!within(i, 0, ofPieces + 1)) {
            return NONE;
        }
        if (i >= ofPieces) {
            return i == ofPieces ? hand.width : hand.price;
        }
        int k = i / 3;
        switch (i % 3) {
            case 0:
                return script.length[hand.letter[k]];
            case 1:
                return hand.form[k];
            default:
                return hand.stretched[k];
        }
    }

    public int claim(int v) {
        return claims.count >= MOST_CLAIMED ? FULL : claims.put(v);
    }

    public int drop() {
        int had = claims.count;
        claims.count = 0;
        return had;
    }

    public int check(int i, int j) {
        lookAtText();
        if (!units.hasWords(i, j)) {
            return UNKNOWN;
        }
        int from = units.wordFrom[i];
        int to = units.wordTo[j];
        if (units.lackMarks(from, to)) {
            return NO;
        }
        int wrong = claims.setBy(from, to, units, spare);
        if (wrong != NONE) {
            return BELOW_CHECKS - wrong;
        }
        takeSpare();
        return 1;
    }

    // ---- 5 paragraphs, pages

    public int best(int width) {
        if (!within(width, 1, WIDEST_LINE)) {
            return OUTSIDE;
        }
        lookAtText();
        if (units.words == 0) {
            return STATE;
        }
        if (!paragraph.search(width)) {
            return NO;
        }
        paragraph.keep(width, spare);
        bestAt = changes;
        pagesAt = NONE;
        return paragraph.least[0];
    }

    public int lines(int k, int what) {
        if (bestAt != changes) {
            return STATE;
        }
        if (k == -1) {
            return paragraph.count;
        }
        if (!within(k, 0, paragraph.count - 1)) {
            return UNKNOWN;
        }
        switch (what) {
            case 0:
                return paragraph.first[k];
            case 1:
                return paragraph.wordsIn[k];
            case 2:
                return paragraph.price[k];
            case 3:
                return paragraph.height[k];
            case 4:
                return paragraph.depth[k];
            default:
                return OUTSIDE;
        }
    }

    public int take(int k) {
        if (bestAt != changes) {
            return STATE;
        }
        if (!within(k, 0, paragraph.count - 1)) {
            return UNKNOWN;
        }
        paragraph.setLine(k, spare);
        takeSpare();
        return hand.width;
    }

    public int pages(int height) {
        if (!within(height, 1, TALLEST_PAGE)) {
            return OUTSIDE;
        }
        if (bestAt != changes) {
            return STATE;
        }
        if (!sheets.search(height)) {
            return NO;
        }
        sheets.keep(height);
        pagesAt = changes;
        return sheets.least[0];
    }

    public int page(int k, int what) {
        if (pagesAt != changes) {
            return STATE;
        }
        if (k == -1) {
            return sheets.count;
        }
        if (!within(k, 0, sheets.count - 1)) {
            return UNKNOWN;
        }
        switch (what) {
            case 0:
                return sheets.first[k];
            case 1:
                return sheets.linesOn[k];
            case 2:
                return sheets.left[k];
            default:
                return OUTSIDE;
        }
    }

    // ---- 6 told

    public int told(int what) {
        switch (what) {
            case 0:
                return script.letters;
            case 1:
                return script.forms;
            case 2:
                return script.ligatures;
            case 3:
                return typed.count;
            case 4:
                return typed.edits;
            case 5:
                return claims.count;
            default:
                return OUTSIDE;
        }
    }

    // ---- helpers

    private static boolean within(int value, int least, int most) {
        return value >= least && value <= most;
    }

    /** Worked out in whole numbers, as a float's bits may be no number at all; below 0.5 and from 128 on: 0. */
    private static int wholeWidth(int bits) {
        int exponent = bits >> 23;
        if (!within(exponent, 126, 133)) {
            return 0;
        }
        int shift = 150 - exponent;
        int digits = (bits & 0x7FFFFF) | 0x800000;
        int whole = digits >> shift;
        int rest = digits - (whole << shift);
        int half = 1 << (shift - 1);
        boolean up = rest > half || (rest == half && (whole & 1) == 1);
        return up ? whole + 1 : whole;
    }

    private void lookAtText() {
        if (unitsAt != changes) {
            units.build();
            unitsAt = changes;
        }
    }

    private void takeSpare() {
        spare.putMarks();
        Line was = hand;
        hand = spare;
        spare = was;
        handAt = changes;
    }

    /** Turns a run of digits about; as it undoes itself, it serves seen() and place() alike. */
    private int mirrored(int i) {
        if (!isDigit(i)) {
            return i;
        }
        int from = i;
        int to = i;
        while (from > hand.firstTyped && isDigit(from - 1)) {
            from--;
        }
        while (to < hand.lastTyped && isDigit(to + 1)) {
            to++;
        }
        return from + to - i;
    }

    private boolean isDigit(int i) {
        return script.sort[typed.letters[i]] == DIGIT;
    }

    /** The letters, ligatures and forms. */
    private static final class Script {
        int letters = 0, ligatures = 0, forms = 0;
        final int[] sort = new int[MOST_LETTERS];
        /** The sort of a ligature's last letter, of another letter its own: it says which places there can be. */
        final int[] endSort = new int[MOST_LETTERS];
        /** Of how many letters of the text it is. */
        final int[] length = new int[MOST_LETTERS];
        final boolean[] barred = new boolean[MOST_LETTERS];
        final int[] ligature = new int[MOST_LIGATURES];
        final int[][] parts = new int[MOST_LIGATURES][3];
        final boolean[] must = new boolean[MOST_LIGATURES];
        final int[][] facts = new int[MOST_FORMS][FACTS];
        final int[] formCount = new int[MOST_LETTERS * PLACES];
        final int[] formAt = new int[MOST_LETTERS * PLACES * FORMS_EACH];

        boolean knows(int letter) {
            return within(letter, 0, letters - 1);
        }

        boolean knowsForm(int form) {
            return within(form, 0, forms - 1);
        }

        boolean isMark(int letter) {
            return sort[letter] == MARK_ABOVE || sort[letter] == MARK_BELOW;
        }

        boolean joinsBack(int letter) {
            return sort[letter] == JOINING || sort[letter] == AFTER;
        }

        int addLetter(int newSort, int newEndSort, int newLength) {
            int letter = letters;
            sort[letter] = newSort;
            endSort[letter] = newEndSort;
            length[letter] = newLength;
            letters++;
            return letter;
        }

        boolean canJoinUp(int x, int y, int z) {
            if (z == -1) {
                return sort[x] == JOINING && joinsBack(y);
            }
            return sort[x] == JOINING && sort[y] == JOINING && joinsBack(z);
        }

        boolean hasLigature(int x, int y, int z) {
            for (int n = 0; n < ligatures; n++) {
                int[] of = parts[n];
                if (of[0] == x && of[1] == y && of[2] == z) {
                    return true;
                }
            }
            return false;
        }

        int addLigature(int x, int y, int z, boolean mustBe) {
            boolean ofTwo = z == -1;
            int letter = addLetter(LIGATURE, sort[ofTwo ? y : z], ofTwo ? 2 : 3);
            ligature[ligatures] = letter;
            must[ligatures] = mustBe;
            parts[ligatures][0] = x;
            parts[ligatures][1] = y;
            parts[ligatures][2] = z;
            ligatures++;
            return letter;
        }

        boolean canHave(int letter, int place) {
            if (endSort[letter] == JOINING) {
                return within(place, ALONE, LAST);
            }
            return place == ALONE || (place == LAST && endSort[letter] == AFTER);
        }

        int formsOf(int letter, int place) {
            return formCount[letter * PLACES + place];
        }

        int formNumber(int letter, int place, int n) {
            return formAt[(letter * PLACES + place) * FORMS_EACH + n];
        }

        int plainForm(int letter, int place) {
            return formsOf(letter, place) > 0 ? formNumber(letter, place, 0) : NONE;
        }

        int addForm(int letter, int place) {
            int form = forms;
            int of = letter * PLACES + place;
            facts[form][OF_LETTER] = letter;
            facts[form][OF_PLACE] = place;
            formAt[of * FORMS_EACH + formCount[of]] = form;
            formCount[of]++;
            forms++;
            return form;
        }

        int priceOf(int form, int stretched) {
            int[] of = facts[form];
            return of[PRICE] + of[FACTOR] * stretched * stretched;
        }

        boolean anyBarred() {
            for (int letter = 0; letter < letters; letter++) {
                if (barred[letter]) {
                    return true;
                }
            }
            return false;
        }
    }

    /** The text and its latest edits. */
    private static final class Typed {
        int count = 0, edits = 0;
        final int[] letters = new int[MOST_TYPED];
        private int nextEdit = 0;
        private final int[] editAt = new int[MOST_UNDONE];
        /** The letter that went; NONE: one came. */
        private final int[] editGone = new int[MOST_UNDONE];

        boolean has(int i) {
            return within(i, 0, count - 1);
        }

        void putIn(int i, int letter) {
            for (int k = count; k > i; k--) {
                letters[k] = letters[k - 1];
            }
            letters[i] = letter;
            count++;
        }

        int takeOut(int i) {
            int letter = letters[i];
            count--;
            for (int k = i; k < count; k++) {
                letters[k] = letters[k + 1];
            }
            return letter;
        }

        void remember(int i, int gone) {
            editAt[nextEdit] = i;
            editGone[nextEdit] = gone;
            nextEdit = nextEdit + 1 < MOST_UNDONE ? nextEdit + 1 : 0;
            edits = Math.min(edits + 1, MOST_UNDONE);
        }

        void undoLatest() {
            nextEdit = nextEdit > 0 ? nextEdit - 1 : MOST_UNDONE - 1;
            edits--;
            if (editGone[nextEdit] == NONE) {
                takeOut(editAt[nextEdit]);
            } else {
                putIn(editAt[nextEdit], editGone[nextEdit]);
            }
        }
    }

    /** The text without the marks that stand on letters: its units are the rows, the blanks, the lone marks. */
    private static final class Units {
        private static final int KINDS_EACH = 3;

        final Script script;
        final Typed typed;
        int count = 0, words = 0;
        final int[] at = new int[MOST_TYPED];
        /** The last letter of the text that is the unit or stands on it: its marks follow it at once. */
        final int[] lastAt = new int[MOST_TYPED];
        final int[] letter = new int[MOST_TYPED];
        final int[] word = new int[MOST_TYPED];
        final boolean[] blank = new boolean[MOST_TYPED];
        final int[] wordFrom = new int[MOST_TYPED];
        final int[] wordTo = new int[MOST_TYPED];
        final int[] unitOf = new int[MOST_TYPED];
        private final boolean[] joins = new boolean[MOST_TYPED];
        private final boolean[] lacksMark = new boolean[MOST_TYPED];
        /** The unit at which its piece begins, with what must be alone. */
        final int[] beginning = new int[MOST_TYPED];
        /** What a piece that begins here can be, in the order that the document tells. */
        final int[] kindCount = new int[MOST_TYPED];
        private final int[] kinds = new int[MOST_TYPED * KINDS_EACH];

        Units(Script theScript, Typed theTyped) {
            script = theScript;
            typed = theTyped;
        }

        void build() {
            splitWords();
            for (int unit = 0; unit < count; unit++) {
                joins[unit] = unit + 1 < count && script.sort[letter[unit]] == JOINING
                        && script.joinsBack(letter[unit + 1]);
            }
            findBases();
            findOthers();
        }

        private void splitWords() {
            count = 0;
            words = 0;
            boolean inWord = false;
            boolean canStand = false;
            for (int i = 0; i < typed.count; i++) {
                int next = typed.letters[i];
                boolean mark = script.isMark(next);
                boolean between = script.sort[next] == BLANK;
                if (!between && !inWord) {
                    wordFrom[words] = count;
                    words++;
                    canStand = false;
                }
                inWord = !between;
                if (mark && canStand) {
                    standOn(count - 1, i, next);
                } else {
                    addUnit(i, next, between ? NONE : words - 1);
                    canStand = !mark;
                }
                if (inWord) {
                    wordTo[words - 1] = count - 1;
                }
            }
        }

        private void addUnit(int i, int next, int ofWord) {
            at[count] = i;
            lastAt[count] = i;
            letter[count] = next;
            word[count] = ofWord;
            blank[count] = ofWord == NONE;
            lacksMark[count] = false;
            unitOf[i] = count;
            count++;
        }

        private void standOn(int unit, int i, int mark) {
            unitOf[i] = unit;
            lastAt[unit] = i;
            if (script.plainForm(mark, ALONE) == NONE) {
                lacksMark[unit] = true;
            }
        }

        private void findBases() {
            int begun = 0;
            int behind = 0;
            for (int unit = 0; unit < count; unit++) {
                boolean begins = unit >= behind;
                if (begins) {
                    int base = longestMust(unit);
                    kinds[unit * KINDS_EACH] = base;
                    begun = unit;
                    behind = unit + script.length[base];
                }
                beginning[unit] = begun;
                kindCount[unit] = begins ? 1 : 0;
            }
        }

        private int longestMust(int unit) {
            int base = letter[unit];
            for (int n = 0; n < script.ligatures; n++) {
                int other = script.ligature[n];
                if (script.must[n] && script.length[other] > script.length[base] && standsAt(n, unit)) {
                    base = other;
                }
            }
            return base;
        }

        private boolean standsAt(int n, int unit) {
            int length = script.length[script.ligature[n]];
            if (unit + length > count) {
                return false;
            }
            for (int k = 0; k < length; k++) {
                if (letter[unit + k] != script.parts[n][k]) {
                    return false;
                }
            }
            return true;
        }

        private void findOthers() {
            for (int unit = 0; unit < count; unit++) {
                for (int n = 0; n < script.ligatures; n++) {
                    if (!script.must[n] && kindCount[unit] < KINDS_EACH && standsAt(n, unit)
                            && areAlone(unit, script.length[script.ligature[n]])) {
                        kinds[unit * KINDS_EACH + kindCount[unit]] = script.ligature[n];
                        kindCount[unit]++;
                    }
                }
            }
        }

        private boolean areAlone(int unit, int length) {
            for (int k = unit; k < unit + length; k++) {
                if (beginning[k] != k || base(k) != letter[k]) {
                    return false;
                }
            }
            return true;
        }

        int kind(int unit, int n) {
            return kinds[unit * KINDS_EACH + n];
        }

        /** What the piece that begins here is with what must be alone. */
        int base(int unit) {
            return kinds[unit * KINDS_EACH];
        }

        int kindOfLength(int unit, int length) {
            for (int n = 0; n < kindCount[unit]; n++) {
                if (script.length[kind(unit, n)] == length) {
                    return kind(unit, n);
                }
            }
            return NONE;
        }

        int placeOf(int unit, int piece) {
            boolean joined = unit > 0 && joins[unit - 1];
            boolean joining = joins[unit + script.length[piece] - 1];
            if (joined) {
                return joining ? MIDDLE : LAST;
            }
            return joining ? FIRST : ALONE;
        }

        boolean hasWords(int i, int j) {
            return i >= 0 && i <= j && j < words;
        }

        boolean lackMarks(int from, int to) {
            for (int unit = from; unit <= to; unit++) {
                if (lacksMark[unit]) {
                    return true;
                }
            }
            return false;
        }

        /** NONE: these units can't be set plain. */
        int plainWidth(int from, int to) {
            if (lackMarks(from, to)) {
                return NONE;
            }
            int width = 0;
            for (int unit = from; unit <= to; unit++) {
                if (beginning[unit] == unit) {
                    int form = script.plainForm(base(unit), placeOf(unit, base(unit)));
                    if (form == NONE) {
                        return NONE;
                    }
                    width += script.facts[form][WIDTH];
                }
            }
            return width;
        }
    }

    /** Boxes without edges. */
    private static final class Boxes {
        int count = 0;
        final int[] left = new int[MOST_TYPED];
        final int[] right = new int[MOST_TYPED];
        final int[] bottom = new int[MOST_TYPED];
        final int[] top = new int[MOST_TYPED];

        void addBox(int newLeft, int newRight, int newBottom, int newTop) {
            left[count] = newLeft;
            right[count] = newRight;
            bottom[count] = newBottom;
            top[count] = newTop;
            count++;
        }

        /** How far a box must go up, or down, until the first of these that it touches lies behind it; 0: none. */
        int wayOff(int l, int r, int b, int t, boolean up) {
            if (b >= t) {
                return 0;
            }
            for (int k = 0; k < count; k++) {
                boolean across = l < right[k] && left[k] < r;
                boolean along = b < top[k] && bottom[k] < t && bottom[k] < top[k];
                if (across && along) {
                    return up ? top[k] - b : t - bottom[k];
                }
            }
            return 0;
        }

        int highest() {
            int highest = 0;
            for (int k = 0; k < count; k++) {
                highest = Math.max(highest, top[k]);
            }
            return highest;
        }

        int deepest() {
            int deepest = 0;
            for (int k = 0; k < count; k++) {
                deepest = Math.max(deepest, -bottom[k]);
            }
            return deepest;
        }
    }

    /** The marks that stand on a line's pieces. */
    private static final class Marks {
        final Boxes boxes = new Boxes();
        final int[] at = new int[MOST_TYPED];
        final int[] on = new int[MOST_TYPED];
        final int[] lifted = new int[MOST_TYPED];

        /** Puts a mark that would begin at this edge, its bottom or, of one below, its top: where it ends. */
        int lift(int left, int width, int edge, int height, boolean up, Boxes pieces) {
            int way = 0;
            int bottom = up ? edge : edge - height;
            // as each step goes past one box, this is where steps of one would end
            for (int turn = 0; turn < MOST_LIFTS && way < MOST_LIFTS; turn++) {
                int shift = up ? way : -way;
                int low = bottom + shift;
                int step = pieces.wayOff(left, left + width, low, low + height, up);
                if (step == 0) {
                    step = boxes.wayOff(left, left + width, low, low + height, up);
                }
                if (step == 0) {
                    break;
                }
                way = Math.min(way + step, MOST_LIFTS);
            }
            int low = bottom + (up ? way : -way);
            lifted[boxes.count] = way;
            boxes.addBox(left, left + width, low, low + height);
            return up ? low + height : low;
        }
    }

    /** A line that is set. */
    private static final class Line {
        private final Script script;
        private final Units units;
        int width = 0, price = 0, firstTyped = 0, lastTyped = 0;
        final int[] letter = new int[MOST_TYPED];
        final int[] unit = new int[MOST_TYPED];
        final int[] form = new int[MOST_TYPED];
        final int[] stretched = new int[MOST_TYPED];
        final Boxes boxes = new Boxes();
        final Marks marks = new Marks();

        Line(Script theScript, Units theUnits) {
            script = theScript;
            units = theUnits;
        }

        void begin(int from, int to) {
            width = 0;
            price = 0;
            boxes.count = 0;
            firstTyped = units.at[from];
            lastTyped = units.lastAt[to];
        }

        void addPiece(int newLetter, int newUnit, int newForm, int stretch) {
            int k = boxes.count;
            int[] facts = script.facts[newForm];
            letter[k] = newLetter;
            unit[k] = newUnit;
            form[k] = newForm;
            stretched[k] = stretch;
            int right = width + facts[WIDTH] + stretch;
            boxes.addBox(width, right, -facts[DEPTH], facts[HEIGHT]);
            width = right;
            price += script.priceOf(newForm, stretch);
        }

        void setPlain(int from, int to) {
            begin(from, to);
            for (int next = from; next <= to; next++) {
                if (units.beginning[next] == next) {
                    int base = units.base(next);
                    int plain = script.plainForm(base, units.placeOf(next, base));
                    if (plain != NONE) {
                        addPiece(base, next, plain, 0);
                    }
                }
            }
        }

        /** The marks come when all pieces stand, as each is lifted off all of them. */
        void putMarks() {
            marks.boxes.count = 0;
            for (int k = 0; k < boxes.count; k++) {
                int behind = unit[k] + script.length[letter[k]];
                int high = boxes.top[k];
                int low = boxes.bottom[k];
                for (int next = unit[k]; next < behind; next++) {
                    for (int i = units.at[next] + 1; i <= units.lastAt[next]; i++) {
                        if (script.sort[units.typed.letters[i]] == MARK_ABOVE) {
                            high = putMark(i, k, high, true);
                        } else {
                            low = putMark(i, k, low, false);
                        }
                    }
                }
            }
        }

        private int putMark(int i, int k, int edge, boolean up) {
            int markForm = script.plainForm(units.typed.letters[i], ALONE);
            if (markForm == NONE) {
                return edge;
            }
            int[] facts = script.facts[markForm];
            int left = boxes.left[k] + script.facts[form[k]][POINT] - facts[WIDTH] / 2;
            marks.at[marks.boxes.count] = i;
            marks.on[marks.boxes.count] = k;
            return marks.lift(left, facts[WIDTH], edge, facts[HEIGHT], up, boxes);
        }

        int height() {
            return Math.max(boxes.highest(), marks.boxes.highest());
        }

        int depth() {
            return Math.max(boxes.deepest(), marks.boxes.deepest());
        }
    }

    /** Finds the least price at which units are set to each width, from the last unit back. */
    private static final class Filler {
        /** What the pieces ahead in the word leave: a stretch may come; it has come; the piece ahead is barred. */
        private static final int FREE = 0, SPENT = 1, BEHIND_BAR = 2, STATES = 3;

        private final Script script;
        private final Units units;
        /** By unit and state: the price of all from there on, by their width. */
        private final int[][] cost = new int[(MOST_TYPED + 1) * STATES][WIDEST_LINE + 1];
        private final int[] narrowest = new int[(MOST_TYPED + 1) * STATES];
        private final int[] widest = new int[(MOST_TYPED + 1) * STATES];
        private int end = 0, limit = 0;
        private boolean bars = false;
        private int chosenLetter = 0, chosenForm = 0, chosenStretch = 0, chosenState = 0;

        Filler(Script theScript, Units theUnits) {
            script = theScript;
            units = theUnits;
        }

        void beginBehind(int to, int widestLine) {
            end = to + 1;
            limit = widestLine;
            bars = script.anyBarred();
            int row = end * STATES;
            clear(row);
            cost[row][0] = 0;
            narrowest[row] = 0;
            widest[row] = 0;
        }

        void goBack(int from, int to) {
            for (int unit = to; unit >= from; unit--) {
                int states = statesAt(unit);
                for (int state = 0; state < states; state++) {
                    clear(unit * STATES + state);
                }
                for (int n = 0; n < units.kindCount[unit]; n++) {
                    offerKind(unit, states, units.kind(unit, n));
                }
            }
        }

        int leastPrice(int from, int width) {
            return cost[from * STATES][width];
        }

        boolean canBeSet(int from) {
            return widest[from * STATES] >= 0;
        }

        int nextWidth(int from, int width, int step) {
            int[] row = cost[from * STATES];
            for (int w = width + step; w >= 0 && w <= WIDEST_LINE; w += step) {
                if (row[w] < NEVER) {
                    return w;
                }
            }
            return NONE;
        }

        private void clear(int row) {
            Arrays.fill(cost[row], NEVER);
            narrowest[row] = WIDEST_LINE + 1;
            widest[row] = -1;
        }

        /** Behind a blank, and at one, nothing of a word's pieces counts. */
        private int statesAt(int unit) {
            if (units.blank[unit] || unit == 0 || units.blank[unit - 1]) {
                return FREE + 1;
            }
            return bars ? STATES : SPENT + 1;
        }

        private void offerKind(int unit, int states, int letter) {
            int length = script.length[letter];
            if (unit + length > end || units.lackMarks(unit, unit + length - 1)) {
                return;
            }
            int place = units.placeOf(unit, letter);
            for (int n = 0; n < script.formsOf(letter, place); n++) {
                int form = script.formNumber(letter, place, n);
                for (int state = 0; state < states; state++) {
                    offerForm(unit, state, letter, form);
                }
            }
        }

        private void offerForm(int unit, int state, int letter, int form) {
            int most = mostAt(state, form);
            int next = unit + script.length[letter];
            for (int stretch = 0; stretch <= most; stretch++) {
                int source = next * STATES + stateBehind(unit, state, letter, stretch);
                offer(unit * STATES + state, source, script.facts[form][WIDTH] + stretch,
                        script.priceOf(form, stretch));
            }
        }

        private int mostAt(int state, int form) {
            return state == FREE ? script.facts[form][MOST] : 0;
        }

        private int stateBehind(int unit, int state, int letter, int stretch) {
            int next = unit + script.length[letter];
            if (next >= end || units.blank[next] || units.blank[unit]) {
                return FREE;
            }
            if (state == SPENT || stretch > 0) {
                return SPENT;
            }
            return script.barred[letter] ? BEHIND_BAR : FREE;
        }

        private void offer(int target, int source, int width, int price) {
            int[] to = cost[target];
            int[] from = cost[source];
            int last = Math.min(widest[source], limit - width);
            int first = narrowest[source];
            if (first > last) {
                return;
            }
            for (int w = first; w <= last; w++) {
                int sum = from[w] + price;
                if (sum < to[w + width]) {
                    to[w + width] = sum;
                }
            }
            narrowest[target] = Math.min(narrowest[target], first + width);
            widest[target] = Math.max(widest[target], last + width);
        }

        /** Sets what was filled, to a width that has a price; the first choice that keeps the least price wins. */
        void trace(int from, int width, Line into) {
            into.begin(from, end - 1);
            int state = FREE;
            int left = width;
            int unit = from;
            for (int turn = 0; turn < MOST_TYPED && unit < end && choose(unit, state, left); turn++) {
                into.addPiece(chosenLetter, unit, chosenForm, chosenStretch);
                left -= script.facts[chosenForm][WIDTH] + chosenStretch;
                unit += script.length[chosenLetter];
                state = chosenState;
            }
        }

        private boolean choose(int unit, int state, int left) {
            for (int n = 0; n < units.kindCount[unit]; n++) {
                int letter = units.kind(unit, n);
                if (unit + script.length[letter] <= end) {
                    int place = units.placeOf(unit, letter);
                    for (int f = 0; f < script.formsOf(letter, place); f++) {
                        if (chooseStretch(unit, state, left, letter, script.formNumber(letter, place, f))) {
                            return true;
                        }
                    }
                }
            }
            return false;
        }

        private boolean chooseStretch(int unit, int state, int left, int letter, int form) {
            int due = cost[unit * STATES + state][left];
            int next = unit + script.length[letter];
            int most = Math.min(mostAt(state, form), left - script.facts[form][WIDTH]);
            for (int stretch = 0; stretch <= most; stretch++) {
                int behind = stateBehind(unit, state, letter, stretch);
                int rest = left - script.facts[form][WIDTH] - stretch;
                if (cost[next * STATES + behind][rest] + script.priceOf(form, stretch) == due) {
                    chosenLetter = letter;
                    chosenForm = form;
                    chosenStretch = stretch;
                    chosenState = behind;
                    return true;
                }
            }
            return false;
        }
    }

    /** The numbers that are claimed to be a witness. */
    private static final class Claims {
        int count = 0;
        private final int[] numbers = new int[MOST_CLAIMED];

        int put(int v) {
            numbers[count] = v;
            count++;
            return count;
        }

        /** Sets the units by what is claimed: which number is the first that can't stand there; NONE: all can. */
        int setBy(int from, int to, Units units, Line into) {
            Script script = units.script;
            into.begin(from, to);
            boolean free = true;
            int k = 0;
            int unit = from;
            for (int turn = 0; turn < MOST_TYPED && unit <= to; turn++) {
                int letter = k < count ? units.kindOfLength(unit, numbers[k]) : NONE;
                if (letter == NONE) {
                    return k;
                }
                if (k + 1 >= count || !isFormOf(script, numbers[k + 1], letter, units.placeOf(unit, letter))) {
                    return k + 1;
                }
                boolean inWord = !units.blank[unit];
                boolean still = inWord && (!free || isBehindBar(units, into, unit));
                int most = still ? 0 : script.facts[numbers[k + 1]][MOST];
                if (k + 2 >= count || !within(numbers[k + 2], 0, most)) {
                    return k + 2;
                }
                into.addPiece(letter, unit, numbers[k + 1], numbers[k + 2]);
                free = !inWord || (free && numbers[k + 2] == 0);
                unit += script.length[letter];
                k += 3;
            }
            return closedBy(k, into);
        }

        private int closedBy(int k, Line set) {
            if (k >= count || numbers[k] != set.width) {
                return k;
            }
            if (k + 1 >= count || numbers[k + 1] != set.price) {
                return k + 1;
            }
            return count > k + 2 ? k + 2 : NONE;
        }

        private static boolean isFormOf(Script script, int form, int letter, int place) {
            return script.knowsForm(form) && script.facts[form][OF_LETTER] == letter
                    && script.facts[form][OF_PLACE] == place;
        }

        /** Whether the piece that was set last is of the same word and barred. */
        private static boolean isBehindBar(Units units, Line set, int unit) {
            int last = set.boxes.count - 1;
            return last >= 0 && units.word[set.unit[last]] == units.word[unit]
                    && units.script.barred[set.letter[last]];
        }
    }

    /** The lines of the latest paragraph. */
    private static final class Paragraph {
        private final Units units;
        private final Filler filler;
        int count = 0;
        private int lineWidth = 0;
        final int[] first = new int[MOST_TYPED];
        final int[] wordsIn = new int[MOST_TYPED];
        final int[] price = new int[MOST_TYPED];
        final int[] height = new int[MOST_TYPED];
        final int[] depth = new int[MOST_TYPED];
        /** The least price of all from a word on, and the last word of the line that begins with it then. */
        final int[] least = new int[MOST_TYPED + 1];
        private final int[] lastWord = new int[MOST_TYPED];

        Paragraph(Units theUnits, Filler theFiller) {
            units = theUnits;
            filler = theFiller;
        }

        boolean search(int width) {
            for (int word = 0; word < units.words; word++) {
                least[word] = NEVER;
            }
            least[units.words] = 0;
            for (int last = units.words - 1; last >= 0; last--) {
                if (least[last + 1] < NEVER) {
                    offerLinesTo(last, width);
                }
            }
            return least[0] < NEVER;
        }

        /** Longer lines are offered first, so a later one must be better, not as good. */
        private void offerLinesTo(int last, int width) {
            int to = units.wordTo[last];
            filler.beginBehind(to, width);
            for (int word = last; word >= 0; word--) {
                int from = units.wordFrom[word];
                filler.goBack(from, word == last ? to : units.wordFrom[word + 1] - 1);
                if (!filler.canBeSet(from)) {
                    break;
                }
                int ofLine = isPlain(word, last, width) ? 0 : filler.leastPrice(from, width);
                int sum = ofLine + least[last + 1];
                if (sum < least[word]) {
                    least[word] = sum;
                    lastWord[word] = last;
                }
            }
        }

        private boolean isPlain(int word, int last, int width) {
            if (last != units.words - 1) {
                return false;
            }
            int plainWidth = units.plainWidth(units.wordFrom[word], units.wordTo[last]);
            return plainWidth != NONE && plainWidth <= width;
        }

        /** Keeps what was found; the line is room to set each one in, for its height and depth. */
        void keep(int width, Line room) {
            lineWidth = width;
            count = 0;
            int word = 0;
            for (int turn = 0; turn < MOST_TYPED && word < units.words; turn++) {
                int next = lastWord[word] + 1;
                first[count] = word;
                wordsIn[count] = next - word;
                price[count] = least[word] - least[next];
                setLine(count, room);
                room.putMarks();
                height[count] = room.height();
                depth[count] = room.depth();
                count++;
                word = next;
            }
        }

        void setLine(int k, Line into) {
            int last = first[k] + wordsIn[k] - 1;
            int from = units.wordFrom[first[k]];
            int to = units.wordTo[last];
            if (isPlain(first[k], last, lineWidth)) {
                into.setPlain(from, to);
            } else {
                filler.beginBehind(to, lineWidth);
                filler.goBack(from, to);
                filler.trace(from, lineWidth, into);
            }
        }
    }

    /** The pages of the paragraph's lines. */
    private static final class Pages {
        private final Paragraph paragraph;
        int count = 0;
        final int[] first = new int[MOST_TYPED];
        final int[] linesOn = new int[MOST_TYPED];
        final int[] left = new int[MOST_TYPED];
        /** The least price of all from a line on, and the last line of the page that begins with it then. */
        final int[] least = new int[MOST_TYPED + 1];
        private final int[] lastLine = new int[MOST_TYPED];

        Pages(Paragraph theParagraph) {
            paragraph = theParagraph;
        }

        boolean search(int height) {
            int lines = paragraph.count;
            least[lines] = 0;
            for (int line = lines - 1; line >= 0; line--) {
                least[line] = NEVER;
                offerPagesFrom(line, height);
            }
            return least[0] < NEVER;
        }

        /** Longer pages are offered last, so one that is as good wins. */
        private void offerPagesFrom(int from, int height) {
            int lines = paragraph.count;
            boolean several = lines > 1;
            if (several && from == lines - 1) {
                return;
            }
            int room = height;
            for (int line = from; line < lines; line++) {
                room -= paragraph.height[line] + paragraph.depth[line];
                if (room < 0) {
                    break;
                }
                boolean mayEnd = !(several && line == 0) && least[line + 1] < NEVER;
                int sum = least[line + 1] + (line == lines - 1 ? 0 : room * room);
                if (mayEnd && sum <= least[from]) {
                    least[from] = sum;
                    lastLine[from] = line;
                }
            }
        }

        void keep(int height) {
            count = 0;
            int line = 0;
            for (int turn = 0; turn < MOST_TYPED && line < paragraph.count; turn++) {
                int next = lastLine[line] + 1;
                int room = height;
                for (int k = line; k < next; k++) {
                    room -= paragraph.height[k] + paragraph.depth[k];
                }
                first[count] = line;
                linesOn[count] = next - line;
                left[count] = room;
                count++;
                line = next;
            }
        }
    }
}
