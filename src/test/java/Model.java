import java.util.ArrayDeque;
import java.util.ArrayList;
import java.util.Arrays;
import java.util.Deque;
import java.util.List;
import java.util.TreeSet;

/**
 * The document once more, in the plainest way there is: every setting of a line, every way to break a paragraph and
 * to make pages is written out and the best one is taken. It is slow, and only for short texts.
 */
final class Model {
    static final int UNKNOWN = -1, OUTSIDE = -2, STATE = -3, FULL = -4, NO = -5, NONE = -6;

    static final class Piece {
        int letter, place, kind;
        List<Integer> texts = new ArrayList<>();
        boolean blank;
        int word;
        int form, formIndex, stretch, x;

        Piece copy() {
            Piece p = new Piece();
            p.letter = letter;
            p.place = place;
            p.kind = kind;
            p.texts = texts;
            p.blank = blank;
            p.word = word;
            p.form = form;
            p.formIndex = formIndex;
            p.stretch = stretch;
            return p;
        }
    }

    static final class Mark {
        int text, piece, x, bottom, top, lifted;
        boolean above;
        int w;
    }

    static final class Set {
        List<Piece> pieces = new ArrayList<>();
        List<Mark> marks = new ArrayList<>();
        int width, price, first, last;
    }

    static final class Lig {
        int number;
        int[] parts;
        boolean must;
    }

    final List<Integer> sorts = new ArrayList<>();
    final List<Boolean> barred = new ArrayList<>();
    final List<Lig> ligs = new ArrayList<>();
    final List<int[]> forms = new ArrayList<>();
    List<Integer> text = new ArrayList<>();
    final Deque<List<Integer>> before = new ArrayDeque<>();
    final List<Integer> claimed = new ArrayList<>();
    Set hand = null;
    int[] latestLine = null;
    List<int[]> paragraph = null;
    int paragraphWidth;
    List<int[]> pageList = null;

    private void changed() {
        hand = null;
        latestLine = null;
        paragraph = null;
        pageList = null;
    }

    private boolean known(int letter) {
        return letter >= 0 && letter < sorts.size();
    }

    private Lig lig(int letter) {
        for (Lig l : ligs) {
            if (l.number == letter) {
                return l;
            }
        }
        return null;
    }

    private boolean isMark(int letter) {
        return sorts.get(letter) == 3 || sorts.get(letter) == 4;
    }

    int letter(int sort) {
        if (sort < 0 || sort > 6) {
            return OUTSIDE;
        }
        if (sorts.size() == 60) {
            return FULL;
        }
        sorts.add(sort);
        barred.add(false);
        changed();
        return sorts.size() - 1;
    }

    int ligature(int x, int y, int z, boolean must) {
        int[] parts = z == -1 ? new int[] {x, y} : new int[] {x, y, z};
        for (int p : parts) {
            if (!known(p)) {
                return UNKNOWN;
            }
        }
        for (int k = 0; k < parts.length; k++) {
            int sort = sorts.get(parts[k]);
            if (sort != 0 && !(sort == 1 && k == parts.length - 1)) {
                return OUTSIDE;
            }
        }
        if (ligs.size() == 8 || sorts.size() == 60) {
            return FULL;
        }
        for (Lig l : ligs) {
            if (Arrays.equals(l.parts, parts)) {
                return NO;
            }
        }
        Lig l = new Lig();
        l.number = sorts.size();
        l.parts = parts;
        l.must = must;
        ligs.add(l);
        sorts.add(7);
        barred.add(false);
        changed();
        return l.number;
    }

    private boolean canHave(int letter, int place) {
        int sort = sorts.get(letter);
        if (sort == 7) {
            int[] parts = lig(letter).parts;
            sort = sorts.get(parts[parts.length - 1]);
        }
        if (sort == 0) {
            return place >= 0 && place <= 3;
        }
        return place == 0 || (sort == 1 && place == 3);
    }

    private List<Integer> formsOf(int letter, int place) {
        List<Integer> list = new ArrayList<>();
        for (int f = 0; f < forms.size(); f++) {
            if (forms.get(f)[0] == letter && forms.get(f)[1] == place) {
                list.add(f);
            }
        }
        return list;
    }

    int form(int letter, int place, int width, int height, int depth, int price) {
        if (!known(letter)) {
            return UNKNOWN;
        }
        double w = Math.rint(Float.intBitsToFloat(width));
        if (!canHave(letter, place) || !(w >= 1 && w <= 100) || height < 0 || height > 100 || depth < 0
                || depth > 100 || price < 0 || price > 1000) {
            return OUTSIDE;
        }
        if (forms.size() == 200 || formsOf(letter, place).size() == 3) {
            return FULL;
        }
        forms.add(new int[] {letter, place, (int) w, height, depth, price, (int) w / 2, 0, 0});
        changed();
        return forms.size() - 1;
    }

    int stretch(int form, int most, int factor) {
        if (form < 0 || form >= forms.size()) {
            return UNKNOWN;
        }
        if (most < 0 || most > 12 || factor < 0 || factor > 50) {
            return OUTSIDE;
        }
        if (isMark(forms.get(form)[0])) {
            return NO;
        }
        forms.get(form)[7] = most;
        forms.get(form)[8] = factor;
        changed();
        return 1;
    }

    int point(int form, int x) {
        if (form < 0 || form >= forms.size()) {
            return UNKNOWN;
        }
        if (x < 0 || x > forms.get(form)[2]) {
            return OUTSIDE;
        }
        forms.get(form)[6] = x;
        changed();
        return 1;
    }

    int bar(int letter, boolean on) {
        if (!known(letter)) {
            return UNKNOWN;
        }
        changed();
        return barred.set(letter, on) ? 1 : 0;
    }

    int about(int form, int what) {
        if (form < 0 || form >= forms.size()) {
            return UNKNOWN;
        }
        return what < 0 || what > 8 ? OUTSIDE : forms.get(form)[what];
    }

    private void remember() {
        before.push(new ArrayList<>(text));
        if (before.size() > 40) {
            before.removeLast();
        }
        changed();
    }

    int type(int letter) {
        if (!known(letter)) {
            return UNKNOWN;
        }
        if (text.size() == 80) {
            return FULL;
        }
        if (sorts.get(letter) == 7) {
            return NO;
        }
        remember();
        text.add(letter);
        return text.size();
    }

    int insert(int i, int letter) {
        if (!known(letter)) {
            return UNKNOWN;
        }
        if (i < 0 || i > text.size()) {
            return OUTSIDE;
        }
        if (text.size() == 80) {
            return FULL;
        }
        if (sorts.get(letter) == 7) {
            return NO;
        }
        remember();
        text.add(i, letter);
        return text.size();
    }

    int remove(int i) {
        if (i < 0 || i >= text.size()) {
            return OUTSIDE;
        }
        remember();
        return text.remove(i);
    }

    int undo() {
        if (before.isEmpty()) {
            return STATE;
        }
        text = before.pop();
        changed();
        return text.size();
    }

    int text(int i) {
        return i < 0 || i >= text.size() ? NONE : text.get(i);
    }

    /** First and last letter of the text of each word. */
    List<int[]> wordList() {
        List<int[]> list = new ArrayList<>();
        for (int i = 0; i < text.size(); i++) {
            if (sorts.get(text.get(i)) != 6) {
                if (i == 0 || sorts.get(text.get(i - 1)) == 6) {
                    list.add(new int[] {i, i});
                } else {
                    list.get(list.size() - 1)[1] = i;
                }
            }
        }
        return list;
    }

    /** All ways of a word, the first one being that with what must be alone. */
    private List<List<Piece>> waysOf(int word) {
        int[] range = wordList().get(word);
        List<Piece> lone = new ArrayList<>();
        List<Integer> row = new ArrayList<>();
        for (int i = range[0]; i <= range[1]; i++) {
            if (!isMark(text.get(i))) {
                row.add(i);
            } else if (row.isEmpty()) {
                Piece p = new Piece();
                p.letter = text.get(i);
                p.texts.add(i);
                p.word = word;
                lone.add(p);
            }
        }
        boolean[] inMust = new boolean[row.size()];
        int[] mustLength = new int[row.size()];
        Lig[] mustAt = new Lig[row.size()];
        for (int r = 0; r < row.size();) {
            Lig longest = null;
            for (Lig l : ligs) {
                if (l.must && stands(l, row, r) && (longest == null || l.parts.length > longest.parts.length)) {
                    longest = l;
                }
            }
            int length = longest == null ? 1 : longest.parts.length;
            mustAt[r] = longest;
            mustLength[r] = length;
            for (int k = r; k < r + length; k++) {
                inMust[k] = longest != null;
            }
            r += length;
        }
        List<List<Piece>> ways = new ArrayList<>();
        spell(row, 0, inMust, mustAt, lone, word, ways);
        return ways;
    }

    private boolean stands(Lig l, List<Integer> row, int r) {
        if (r + l.parts.length > row.size()) {
            return false;
        }
        for (int k = 0; k < l.parts.length; k++) {
            if (text.get(row.get(r + k)) != l.parts[k]) {
                return false;
            }
        }
        return true;
    }

    private void spell(List<Integer> row, int r, boolean[] inMust, Lig[] mustAt, List<Piece> sofar, int word,
            List<List<Piece>> ways) {
        if (r == row.size()) {
            ways.add(sofar);
            return;
        }
        if (mustAt[r] != null) {
            step(row, r, mustAt[r].number, mustAt[r].parts.length, 0, inMust, mustAt, sofar, word, ways);
            return;
        }
        step(row, r, text.get(row.get(r)), 1, 0, inMust, mustAt, sofar, word, ways);
        for (int n = 0; n < ligs.size(); n++) {
            Lig l = ligs.get(n);
            if (!l.must && stands(l, row, r)) {
                boolean alone = true;
                for (int k = r; k < r + l.parts.length; k++) {
                    alone &= !inMust[k];
                }
                if (alone) {
                    step(row, r, l.number, l.parts.length, n + 1, inMust, mustAt, sofar, word, ways);
                }
            }
        }
    }

    private void step(List<Integer> row, int r, int letter, int length, int kind, boolean[] inMust, Lig[] mustAt,
            List<Piece> sofar, int word, List<List<Piece>> ways) {
        Piece p = new Piece();
        p.letter = letter;
        p.kind = kind;
        p.word = word;
        p.texts.addAll(row.subList(r, r + length));
        boolean joined = r > 0 && joins(row.get(r - 1), row.get(r));
        boolean joining = r + length < row.size() && joins(row.get(r + length - 1), row.get(r + length));
        p.place = joined && joining ? 2 : joined ? 3 : joining ? 1 : 0;
        List<Piece> next = new ArrayList<>(sofar);
        next.add(p);
        spell(row, r + length, inMust, mustAt, next, word, ways);
    }

    private boolean joins(int i, int j) {
        int next = sorts.get(text.get(j));
        return sorts.get(text.get(i)) == 0 && (next == 0 || next == 1);
    }

    private Piece blankPiece(int i) {
        Piece p = new Piece();
        p.letter = text.get(i);
        p.texts.add(i);
        p.blank = true;
        p.word = -1;
        return p;
    }

    int shape(int i, int what) {
        if (i < 0 || i >= text.size()) {
            return UNKNOWN;
        }
        if (what < 0 || what > 4) {
            return OUTSIDE;
        }
        int word = NONE;
        Piece has = null;
        if (sorts.get(text.get(i)) == 6) {
            has = blankPiece(i);
        } else {
            List<int[]> list = wordList();
            for (int w = 0; w < list.size(); w++) {
                if (list.get(w)[0] <= i && i <= list.get(w)[1]) {
                    word = w;
                }
            }
            int holder = i;
            if (isMark(text.get(i))) {
                for (int k = i; k >= list.get(word)[0]; k--) {
                    if (!isMark(text.get(k))) {
                        holder = k;
                        break;
                    }
                }
            }
            for (Piece p : waysOf(word).get(0)) {
                if (p.texts.contains(holder)) {
                    has = p;
                }
            }
        }
        List<Integer> list = formsOf(has.letter, has.place);
        int[] answers = {word, has.texts.get(0), has.letter, has.place, list.isEmpty() ? NONE : list.get(0)};
        return answers[what];
    }

    int words() {
        return wordList().size();
    }

    /** All ways of a line, what must be alone first. */
    private List<List<Piece>> waysOfLine(int i, int j) {
        List<int[]> list = wordList();
        List<List<Piece>> all = new ArrayList<>();
        all.add(new ArrayList<>());
        for (int w = i; w <= j; w++) {
            List<List<Piece>> next = new ArrayList<>();
            for (List<Piece> sofar : all) {
                for (List<Piece> way : waysOf(w)) {
                    List<Piece> joined = new ArrayList<>(sofar);
                    if (w > i) {
                        for (int t = list.get(w - 1)[1] + 1; t < list.get(w)[0]; t++) {
                            joined.add(blankPiece(t));
                        }
                    }
                    joined.addAll(way);
                    next.add(joined);
                }
            }
            all = next;
        }
        return all;
    }

    private boolean marksLack(int i, int j) {
        List<int[]> list = wordList();
        for (int w = i; w <= j; w++) {
            boolean letterSeen = false;
            for (int t = list.get(w)[0]; t <= list.get(w)[1]; t++) {
                if (!isMark(text.get(t))) {
                    letterSeen = true;
                } else if (letterSeen && formsOf(text.get(t), 0).isEmpty()) {
                    return true;
                }
            }
        }
        return false;
    }

    /** Thrown, before anything is changed, by a call for which too much would have to be written out. */
    static final class TooMany extends RuntimeException {
        private static final long serialVersionUID = 1L;

        TooMany() {
            super(null, null, false, false);
        }
    }

    private static final int MOST_STEPS = 60000;
    private int steps = 0;

    /** All settings that are not wider. */
    private List<Set> settings(int i, int j, int widest) {
        List<Set> all = new ArrayList<>();
        if (marksLack(i, j)) {
            return all;
        }
        for (List<Piece> way : waysOfLine(i, j)) {
            choose(way, new ArrayList<>(), widest, all);
        }
        return all;
    }

    private void choose(List<Piece> way, List<Piece> sofar, int room, List<Set> all) {
        steps++;
        if (steps > MOST_STEPS) {
            throw new TooMany();
        }
        if (room < 0) {
            return;
        }
        int k = sofar.size();
        if (k == way.size()) {
            if (mayStretchSo(sofar)) {
                all.add(setOf(sofar));
            }
            return;
        }
        List<Integer> list = formsOf(way.get(k).letter, way.get(k).place);
        for (int n = 0; n < list.size(); n++) {
            for (int s = 0; s <= forms.get(list.get(n))[7]; s++) {
                Piece p = way.get(k).copy();
                p.form = list.get(n);
                p.formIndex = n;
                p.stretch = s;
                sofar.add(p);
                choose(way, sofar, room - forms.get(p.form)[2] - s, all);
                sofar.remove(k);
            }
        }
    }

    private boolean mayStretchSo(List<Piece> pieces) {
        for (int k = 0; k < pieces.size(); k++) {
            Piece p = pieces.get(k);
            if (p.blank || p.stretch == 0) {
                continue;
            }
            for (int m = 0; m < pieces.size(); m++) {
                if (m != k && pieces.get(m).word == p.word && pieces.get(m).stretch > 0) {
                    return false;
                }
            }
            if (k > 0 && pieces.get(k - 1).word == p.word && barred.get(pieces.get(k - 1).letter)) {
                return false;
            }
        }
        return true;
    }

    private Set setOf(List<Piece> pieces) {
        Set s = new Set();
        for (Piece p : pieces) {
            Piece own = p.copy();
            own.x = s.width;
            s.pieces.add(own);
            int[] f = forms.get(p.form);
            s.width += f[2] + p.stretch;
            s.price += f[5] + f[8] * p.stretch * p.stretch;
        }
        s.first = pieces.get(0).texts.get(0);
        s.last = pieces.get(pieces.size() - 1).texts.get(pieces.get(pieces.size() - 1).texts.size() - 1);
        while (s.last + 1 < text.size() && isMark(text.get(s.last + 1))) {
            s.last++;
        }
        return s;
    }

    private static int compare(Set a, Set b) {
        if (a.price != b.price) {
            return Integer.compare(a.price, b.price);
        }
        for (int k = 0; k < a.pieces.size() && k < b.pieces.size(); k++) {
            Piece p = a.pieces.get(k);
            Piece q = b.pieces.get(k);
            if (p.kind != q.kind) {
                return Integer.compare(p.kind, q.kind);
            }
            if (p.formIndex != q.formIndex) {
                return Integer.compare(p.formIndex, q.formIndex);
            }
            if (p.stretch != q.stretch) {
                return Integer.compare(p.stretch, q.stretch);
            }
        }
        return 0;
    }

    private Set filled(List<Set> settings, int width) {
        Set best = null;
        for (Set s : settings) {
            if (s.width == width && (best == null || compare(s, best) < 0)) {
                best = s;
            }
        }
        return best;
    }

    private Set plainSet(int i, int j) {
        if (marksLack(i, j)) {
            return null;
        }
        List<Piece> pieces = new ArrayList<>();
        for (Piece p : waysOfLine(i, j).get(0)) {
            List<Integer> list = formsOf(p.letter, p.place);
            if (list.isEmpty()) {
                return null;
            }
            Piece own = p.copy();
            own.form = list.get(0);
            own.stretch = 0;
            pieces.add(own);
        }
        return setOf(pieces);
    }

    private static boolean touch(int[] a, int[] b) {
        return Math.max(a[0], b[0]) < Math.min(a[1], b[1]) && Math.max(a[2], b[2]) < Math.min(a[3], b[3]);
    }

    private int[] pieceBox(Piece p) {
        int[] f = forms.get(p.form);
        return new int[] {p.x, p.x + f[2] + p.stretch, -f[4], f[3]};
    }

    private Set withMarks(Set s) {
        s.marks.clear();
        for (int t = s.first; t <= s.last; t++) {
            if (!isMark(text.get(t))) {
                continue;
            }
            int holder = t;
            while (holder >= s.first && isMark(text.get(holder))) {
                holder--;
            }
            int on = -1;
            for (int k = 0; k < s.pieces.size(); k++) {
                if (!s.pieces.get(k).blank && s.pieces.get(k).texts.contains(holder)) {
                    on = k;
                }
            }
            if (on < 0) {
                continue;
            }
            Mark m = new Mark();
            m.text = t;
            m.piece = on;
            m.above = sorts.get(text.get(t)) == 3;
            int[] f = forms.get(formsOf(text.get(t), 0).get(0));
            int[] base = forms.get(s.pieces.get(on).form);
            m.w = f[2];
            m.x = s.pieces.get(on).x + base[6] - f[2] / 2;
            int edge = m.above ? base[3] : -base[4];
            for (Mark other : s.marks) {
                if (other.piece == on && other.above == m.above) {
                    edge = m.above ? other.top : other.bottom;
                }
            }
            m.bottom = m.above ? edge : edge - f[3];
            m.top = m.bottom + f[3];
            while (m.lifted < 300 && touchesAny(s, m)) {
                m.lifted++;
                m.bottom += m.above ? 1 : -1;
                m.top += m.above ? 1 : -1;
            }
            s.marks.add(m);
        }
        return s;
    }

    private boolean touchesAny(Set s, Mark m) {
        int[] box = {m.x, m.x + m.w, m.bottom, m.top};
        for (Piece p : s.pieces) {
            if (touch(box, pieceBox(p))) {
                return true;
            }
        }
        for (Mark other : s.marks) {
            if (touch(box, new int[] {other.x, other.x + other.w, other.bottom, other.top})) {
                return true;
            }
        }
        return false;
    }

    private int heightOf(Set s) {
        int h = Integer.MIN_VALUE;
        for (Piece p : s.pieces) {
            h = Math.max(h, forms.get(p.form)[3]);
        }
        for (Mark m : s.marks) {
            h = Math.max(h, m.top);
        }
        return h;
    }

    private int depthOf(Set s) {
        int d = Integer.MIN_VALUE;
        for (Piece p : s.pieces) {
            d = Math.max(d, forms.get(p.form)[4]);
        }
        for (Mark m : s.marks) {
            d = Math.max(d, -m.bottom);
        }
        return d;
    }

    private boolean noWords(int i, int j) {
        return i < 0 || j >= words() || i > j;
    }

    int line(int i, int j, int width) {
        if (noWords(i, j)) {
            return UNKNOWN;
        }
        if (width < 0 || width > 300) {
            return OUTSIDE;
        }
        steps = 0;
        Set s = filled(settings(i, j, width), width);
        latestLine = new int[] {i, j, width};
        if (s == null) {
            hand = null;
            return NO;
        }
        hand = withMarks(s);
        return s.price;
    }

    int near(int side) {
        if (side != 0 && side != 1) {
            return OUTSIDE;
        }
        if (latestLine == null) {
            return STATE;
        }
        TreeSet<Integer> widths = new TreeSet<>();
        steps = 0;
        for (Set s : settings(latestLine[0], latestLine[1], 300)) {
            widths.add(s.width);
        }
        Integer next = side == 0 ? widths.lower(latestLine[2]) : widths.higher(latestLine[2]);
        return next == null ? NONE : next;
    }

    int plain(int i, int j) {
        if (noWords(i, j)) {
            return UNKNOWN;
        }
        Set s = plainSet(i, j);
        if (s == null) {
            return NO;
        }
        hand = withMarks(s);
        return s.width;
    }

    int atHand(int what) {
        if (what < 0 || what > 7) {
            return OUTSIDE;
        }
        if (hand == null) {
            return STATE;
        }
        int[] answers = {hand.pieces.size(), hand.width, hand.price, hand.marks.size(), heightOf(hand), depthOf(hand),
            hand.first, hand.last - hand.first + 1};
        return answers[what];
    }

    int piece(int k, int what) {
        if (hand == null) {
            return STATE;
        }
        if (k < 0 || k >= hand.pieces.size()) {
            return UNKNOWN;
        }
        Piece p = hand.pieces.get(k);
        int[] answers = {p.letter, p.texts.get(0), p.place, p.form, p.stretch, p.x};
        return what < 0 || what > 5 ? OUTSIDE : answers[what];
    }

    int mark(int k, int what) {
        if (hand == null) {
            return -100003;
        }
        if (k < 0 || k >= hand.marks.size()) {
            return -100001;
        }
        Mark m = hand.marks.get(k);
        int[] answers = {m.text, m.piece, m.x, m.bottom, m.top, m.lifted};
        return what < 0 || what > 5 ? -100002 : answers[what];
    }

    private List<Integer> seenOrder() {
        List<Integer> order = new ArrayList<>();
        for (int t = hand.last; t >= hand.first;) {
            int from = t;
            if (sorts.get(text.get(t)) == 5) {
                while (from > hand.first && sorts.get(text.get(from - 1)) == 5) {
                    from--;
                }
            }
            for (int k = from; k <= t; k++) {
                order.add(k);
            }
            t = from - 1;
        }
        return order;
    }

    int seen(int k) {
        if (hand == null) {
            return STATE;
        }
        List<Integer> order = seenOrder();
        return k < 0 || k >= order.size() ? UNKNOWN : order.get(k);
    }

    int place(int i) {
        if (hand == null) {
            return STATE;
        }
        int k = seenOrder().indexOf(i);
        return k < 0 ? UNKNOWN : k;
    }

    private List<Integer> witnessOf(Set s) {
        List<Integer> numbers = new ArrayList<>();
        for (Piece p : s.pieces) {
            numbers.add(p.texts.size());
            numbers.add(p.form);
            numbers.add(p.stretch);
        }
        numbers.add(s.width);
        numbers.add(s.price);
        return numbers;
    }

    int witness(int i) {
        if (hand == null) {
            return STATE;
        }
        List<Integer> numbers = witnessOf(hand);
        return i < 0 || i >= numbers.size() ? NONE : numbers.get(i);
    }

    int claim(int v) {
        if (claimed.size() == 260) {
            return FULL;
        }
        claimed.add(v);
        return claimed.size();
    }

    int drop() {
        int had = claimed.size();
        claimed.clear();
        return had;
    }

    int check(int i, int j) {
        if (noWords(i, j)) {
            return UNKNOWN;
        }
        if (marksLack(i, j)) {
            return NO;
        }
        List<List<Piece>> ways = waysOfLine(i, j);
        List<Piece> set = new ArrayList<>();
        int at = 0;
        while (true) {
            int k = set.size();
            boolean complete = false;
            for (List<Piece> way : ways) {
                complete |= way.size() == k;
            }
            if (complete) {
                break;
            }
            if (at >= claimed.size()) {
                return -100 - at;
            }
            List<List<Piece>> fit = new ArrayList<>();
            for (List<Piece> way : ways) {
                if (way.get(k).texts.size() == claimed.get(at)) {
                    fit.add(way);
                }
            }
            if (fit.isEmpty()) {
                return -100 - at;
            }
            ways = fit;
            Piece p = ways.get(0).get(k).copy();
            at++;
            if (at >= claimed.size() || !formsOf(p.letter, p.place).contains(claimed.get(at))) {
                return -100 - at;
            }
            p.form = claimed.get(at);
            at++;
            if (at >= claimed.size()) {
                return -100 - at;
            }
            p.stretch = claimed.get(at);
            set.add(p);
            if (p.stretch < 0 || p.stretch > forms.get(p.form)[7] || !mayStretchSo(set)) {
                return -100 - at;
            }
            at++;
        }
        Set s = setOf(set);
        if (at >= claimed.size() || claimed.get(at) != s.width) {
            return -100 - at;
        }
        at++;
        if (at >= claimed.size() || claimed.get(at) != s.price) {
            return -100 - at;
        }
        at++;
        if (at < claimed.size()) {
            return -100 - at;
        }
        hand = withMarks(s);
        return 1;
    }

    /** All ways to split so many things in rows, those with most in the first one ahead. */
    private static void splits(int n, List<Integer> sofar, List<List<Integer>> all) {
        if (n == 0) {
            all.add(new ArrayList<>(sofar));
            return;
        }
        for (int k = n; k >= 1; k--) {
            sofar.add(k);
            splits(n - k, sofar, all);
            sofar.remove(sofar.size() - 1);
        }
    }

    private Set lineSet(int i, int j, int width, Set[][] fills) {
        if (j == words() - 1) {
            Set p = plainSet(i, j);
            if (p != null && p.width <= width) {
                return p;
            }
        }
        if (fills[i][j] == null) {
            fills[i][j] = filled(settings(i, j, width), width);
            if (fills[i][j] == null) {
                fills[i][j] = new Set();
            }
        }
        return fills[i][j].pieces.isEmpty() ? null : fills[i][j];
    }

    private boolean isPlain(int i, int j, int width) {
        if (j != words() - 1) {
            return false;
        }
        Set p = plainSet(i, j);
        return p != null && p.width <= width;
    }

    int best(int width) {
        if (width < 1 || width > 300) {
            return OUTSIDE;
        }
        int n = words();
        if (n == 0) {
            return STATE;
        }
        steps = 0;
        Set[][] fills = new Set[n][n];
        List<List<Integer>> all = new ArrayList<>();
        splits(n, new ArrayList<>(), all);
        int least = Integer.MAX_VALUE;
        List<Integer> found = null;
        for (List<Integer> split : all) {
            int sum = 0;
            int from = 0;
            for (int count : split) {
                Set s = lineSet(from, from + count - 1, width, fills);
                if (s == null) {
                    sum = Integer.MAX_VALUE;
                    break;
                }
                sum += isPlain(from, from + count - 1, width) ? 0 : s.price;
                from += count;
            }
            if (sum < least) {
                least = sum;
                found = split;
            }
        }
        if (found == null) {
            return NO;
        }
        paragraph = new ArrayList<>();
        pageList = null;
        paragraphWidth = width;
        int from = 0;
        for (int count : found) {
            Set s = withMarks(lineSet(from, from + count - 1, width, fills));
            int price = isPlain(from, from + count - 1, width) ? 0 : s.price;
            paragraph.add(new int[] {from, count, price, heightOf(s), depthOf(s)});
            from += count;
        }
        return least;
    }

    int lines(int k, int what) {
        if (paragraph == null) {
            return STATE;
        }
        if (k == -1) {
            return paragraph.size();
        }
        if (k < 0 || k >= paragraph.size()) {
            return UNKNOWN;
        }
        return what < 0 || what > 4 ? OUTSIDE : paragraph.get(k)[what];
    }

    int take(int k) {
        if (paragraph == null) {
            return STATE;
        }
        if (k < 0 || k >= paragraph.size()) {
            return UNKNOWN;
        }
        steps = 0;
        int[] l = paragraph.get(k);
        hand = withMarks(lineSet(l[0], l[0] + l[1] - 1, paragraphWidth, new Set[words()][words()]));
        return hand.width;
    }

    int pages(int height) {
        if (height < 1 || height > 2000) {
            return OUTSIDE;
        }
        if (paragraph == null) {
            return STATE;
        }
        int n = paragraph.size();
        List<List<Integer>> all = new ArrayList<>();
        splits(n, new ArrayList<>(), all);
        int least = Integer.MAX_VALUE;
        List<int[]> found = null;
        for (List<Integer> split : all) {
            List<int[]> list = new ArrayList<>();
            int sum = 0;
            boolean fits = true;
            int from = 0;
            for (int count : split) {
                int left = height;
                for (int k = from; k < from + count; k++) {
                    left -= paragraph.get(k)[3] + paragraph.get(k)[4];
                }
                boolean lastPage = from + count == n;
                fits &= left >= 0 && !(n > 1 && from == n - 1) && !(n > 1 && from == 0 && count == 1);
                sum += lastPage ? 0 : left * left;
                list.add(new int[] {from, count, left});
                from += count;
            }
            if (fits && sum < least) {
                least = sum;
                found = list;
            }
        }
        if (found == null) {
            return NO;
        }
        pageList = found;
        return least;
    }

    int page(int k, int what) {
        if (pageList == null) {
            return STATE;
        }
        if (k == -1) {
            return pageList.size();
        }
        if (k < 0 || k >= pageList.size()) {
            return UNKNOWN;
        }
        return what < 0 || what > 2 ? OUTSIDE : pageList.get(k)[what];
    }

    int told(int what) {
        int[] answers = {sorts.size(), forms.size(), ligs.size(), text.size(), before.size(), claimed.size()};
        return what < 0 || what > 5 ? OUTSIDE : answers[what];
    }
}
