import java.util.Arrays;
import java.util.NoSuchElementException;

/** A book of signs that is shown by pieces of two stores; README.md says how it is used. */
public final class PieceBook {
    public static final int NONE = -1;

    private static final int BREAK = 10;
    private static final int BLANK = 32;
    private static final int HIGHEST_SIGN = 127;

    private static final int TEXT_MOST = 80;
    private static final int OPENS_MOST = 20;
    private static final int ORIGINAL_MOST = TEXT_MOST * OPENS_MOST;
    private static final int ADDED_MOST = 6000;
    private static final int BOOK_MOST = 3000;
    private static final int EDITS_MOST = 30;
    private static final int MARKS_MOST = 8;
    private static final int KEPT_MOST = 3;
    private static final int READS_MOST = 16;
    private static final int PLACES_TOLD_MOST = 12;
    private static final int BLANKS_MOST = 8;
    private static final int WIDTH_MOST = 80;
    private static final int YEARS_MOST = 40;
    private static final int PIECES_AT_FIRST = 16;

    private static final int EXACTLY = 0;
    private static final int WITH_ANY = 1;
    private static final int CAPITALS_ASIDE = 2;

    private final int[] text = new int[TEXT_MOST];
    private int textSize;
    private final Told told = new Told();
    private final Stores stores = new Stores();
    private final History history = new History();
    private final Leaf[] kept = new Leaf[KEPT_MOST];
    private final boolean[] isKept = new boolean[KEPT_MOST];
    /** Pieces on their way from one place to another. */
    private final Leaf clip = new Leaf();
    /** The book that years() draws its edits on. */
    private final Leaf trial = new Leaf();
    /** The signs of the book as it is, laid out when a question first needs them. */
    private final Page page = new Page();
    private boolean pageIsOld;
    /** The signs of another book: what it was, or what it would be. */
    private final Page otherPage = new Page();
    private final int[] scratch = new int[ADDED_MOST];
    /** The place at which a type() would belong to the latest edit. */
    private int typedBehind = NONE;

    public PieceBook() {
    }

    // ---- the text, the original

    public int sign(int v) {
        if (textSize + 4 > TEXT_MOST) {
            return NONE;
        }
        for (int shift = 24; shift >= 0; shift -= 8) {
            text[textSize] = (v >>> shift) & 255;
            textSize++;
        }
        return textSize;
    }

    public boolean end(int n) {
        if (n < 0 || n > textSize) {
            return false;
        }
        textSize = n;
        return true;
    }

    public int opens(int n) {
        int size = readText();
        int wrong = firstThatIsNone(size);
        if (wrong != NONE) {
            return -1 - wrong;
        }
        if (n < 1 || n > OPENS_MOST) {
            return -100;
        }
        stores.renew(text, size, n);
        Leaf leaf = history.current();
        leaf.clear();
        if (stores.original > 0) {
            leaf.addPiece(0, stores.original);
        }
        for (int i = 0; i < KEPT_MOST; i++) {
            isKept[i] = false;
        }
        history.forget();
        bookIsOther();
        return leaf.signs;
    }

    public int store(int s, int what) throws NoSuchElementException {
        if (s < 0 || s > 1 || what < 0 || what > 2) {
            throw new NoSuchElementException("no such store, or nothing told of it");
        }
        if (what == 0) {
            return stores.sizeOf(s);
        }
        if (what == 1) {
            return stores.breaksIn(baseOf(s), stores.sizeOf(s));
        }
        return history.current().piecesOf(s);
    }

    // ---- what is done

    public int inserts(int p) {
        int size = readText();
        int wrong = firstThatIsNone(size);
        if (wrong != NONE) {
            return -1 - wrong;
        }
        return putInPlace(p, 0, size);
    }

    public int type(int p, int v) {
        if (!isSign(v)) {
            return NONE;
        }
        Leaf leaf = history.current();
        if (p < 0 || p > leaf.signs) {
            return -2;
        }
        if (leaf.signs >= BOOK_MOST) {
            return -3;
        }
        if (stores.added >= ADDED_MOST) {
            return -4;
        }
        if (p != typedBehind) {
            leaf = beginEdit();
        }
        leaf.insert(p, stores.addedEnd(), 1);
        stores.add(v);
        typedBehind = p + 1;
        pageIsOld = true;
        return leaf.signs;
    }

    public int takes(int p, int n) {
        if (n < 1 || p < 0) {
            return NONE;
        }
        if (!hasSigns(p, n)) {
            return -2;
        }
        int breaks = shownPage().breaksIn(p, p + n);
        beginEdit().take(p, n);
        return breaks;
    }

    public int puts(int p, int n) {
        int size = readText();
        int wrong = firstThatIsNone(size);
        if (wrong != NONE) {
            return -1 - wrong;
        }
        return putInPlace(p, n, size);
    }

    public int lays(int p, int n, int q) {
        if (n < 1 || p < 0 || q < 0) {
            return NONE;
        }
        if (!hasSigns(p, n) || !isPlace(q)) {
            return -2;
        }
        if (history.current().signs + n > BOOK_MOST) {
            return -3;
        }
        Leaf leaf = beginEdit();
        leaf.lay(p, n, q, clip);
        return leaf.signs;
    }

    public int moves(int p, int n, int q) {
        if (n < 1 || p < 0 || q < 0) {
            return NONE;
        }
        if (!hasSigns(p, n) || !isPlace(q) || (q > p && q < p + n)) {
            return -2;
        }
        int goal = q <= p ? q : q - n;
        beginEdit().move(p, n, goal, clip);
        return goal;
    }

    public int cuts(int line) {
        Page now = shownPage();
        int begin = now.lineStart(line);
        if (begin == NONE) {
            return NONE;
        }
        if (now.size == 0) {
            return -2;
        }
        int behind = now.lineEnd(begin);
        if (behind < now.size) {
            behind++;
        } else if (begin > 0) {
            begin--;
        }
        beginEdit().take(begin, behind - begin);
        return behind - begin;
    }

    public int indents(int a, int b, int n) {
        if (n < 1 || n > BLANKS_MOST) {
            return NONE;
        }
        Page now = shownPage();
        int begin = now.lineStart(b);
        if (a < 0 || b < a || begin == NONE) {
            return -2;
        }
        int more = (b - a + 1) * n;
        if (now.size + more > BOOK_MOST) {
            return -3;
        }
        if (stores.added + more > ADDED_MOST) {
            return -4;
        }
        Leaf leaf = beginEdit();
        // The page still shows the book ahead of the edit; lines ahead of the one just done begin where they did.
        for (int line = b; line >= a; line--) {
            leaf.insert(begin, stores.addedEnd(), n);
            stores.addBlanks(n);
            begin = now.lineBegin(begin - 1);
        }
        return leaf.signs;
    }

    public int heals() {
        if (history.current().bordersToHeal() == 0) {
            return 0;
        }
        return beginEdit().joinPieces();
    }

    public int marks(int i, int p, int s) {
        if (i < 0 || i >= MARKS_MOST || s < 0 || s > 1) {
            return -3;
        }
        if (p != NONE && !isPlace(p)) {
            return -2;
        }
        history.current().setMark(i, p, s == 1);
        typedBehind = NONE;
        return p;
    }

    public int day() {
        int size = readText();
        int wrong = faultOfDay(size);
        if (wrong != NONE) {
            return -1 - wrong;
        }
        int done = 0;
        int refused = 0;
        int p = 0;
        while (p < size && refused == 0) {
            if (doAct(p) < 0) {
                refused = 1;
            } else {
                done++;
            }
            p += Math.max(1, lengthOfAct(text[p]));
        }
        told.tell(refused, history.current().signs);
        return done;
    }

    public int undo() {
        if (history.undoable < 1) {
            return NONE;
        }
        history.goBack();
        bookIsOther();
        return history.undoable;
    }

    public int redo() {
        if (history.redoable < 1) {
            return NONE;
        }
        history.goOn();
        bookIsOther();
        return history.redoable;
    }

    // ---- signs, lines, places

    public int at(int p) {
        Page now = shownPage();
        return now.has(p) ? now.signAt(p) : NONE;
    }

    public int reads(int p, int n) {
        if (!isPlace(p) || n < 1 || n > READS_MOST) {
            return NONE;
        }
        Page now = shownPage();
        int read = Math.min(n, now.size - p);
        told.clear();
        for (int i = 0; i < read; i++) {
            told.add(now.signAt(p + i));
        }
        return read;
    }

    public int line(int p) {
        if (!isPlace(p)) {
            return NONE;
        }
        Page now = shownPage();
        told.tell(p - now.lineBegin(p));
        return now.breaksIn(0, p);
    }

    public int starts(int line) {
        Page now = shownPage();
        int begin = now.lineStart(line);
        if (begin == NONE) {
            return NONE;
        }
        told.tell(now.lineEnd(begin) - begin);
        return begin;
    }

    public int place(int line, int many) {
        Page now = shownPage();
        int begin = now.lineStart(line);
        if (begin == NONE || many < 0) {
            return NONE;
        }
        int ahead = Math.min(many, now.lineEnd(begin) - begin);
        told.tell(ahead);
        return begin + ahead;
    }

    public int longest() {
        Page now = shownPage();
        int best = 0;
        int most = -1;
        int empty = 0;
        int line = 0;
        int begin = 0;
        for (int p = 0; p <= now.size; p++) {
            if (p == now.size || now.signAt(p) == BREAK) {
                if (p - begin > most) {
                    most = p - begin;
                    best = line;
                }
                if (p == begin) {
                    empty++;
                }
                begin = p + 1;
                line++;
            }
        }
        told.tell(most, empty);
        return best;
    }

    public int mark(int i) {
        if (i < 0 || i >= MARKS_MOST) {
            return NONE;
        }
        int place = history.current().marked[i];
        return place == NONE ? -2 : place;
    }

    public int between(int p, int q) {
        if (q < p) {
            return NONE;
        }
        int among = history.current().marksFrom(Math.max(p, 0), q);
        told.tell(Integer.bitCount(among));
        return among;
    }

    // ---- pieces

    public int piece(int i, int what) throws NoSuchElementException {
        Leaf leaf = history.current();
        if (i < 0 || i >= leaf.pieces || what < 0 || what > 4) {
            throw new NoSuchElementException("no such piece, or nothing told of it");
        }
        switch (what) {
            case 0:
                return storeOf(leaf.source[i]);
            case 1:
                return placeInStore(leaf.source[i]);
            case 2:
                return leaf.length[i];
            case 3:
                return stores.breaksIn(leaf.source[i], leaf.length[i]);
            default:
                return leaf.beginOf(i);
        }
    }

    public int shows(int p) {
        Page now = shownPage();
        if (!now.has(p)) {
            return NONE;
        }
        Leaf leaf = history.current();
        int i = now.pieceAt(p);
        int which = p - leaf.beginOf(i);
        int source = leaf.source[i];
        told.tell(which, storeOf(source), placeInStore(source) + which);
        return i;
    }

    public int from(int s, int k) {
        if (s < 0 || s > 1 || k < 0 || k >= stores.sizeOf(s)) {
            return NONE;
        }
        Leaf leaf = history.current();
        int sought = baseOf(s) + k;
        int shown = 0;
        int begin = 0;
        told.clear();
        for (int i = 0; i < leaf.pieces; i++) {
            int which = sought - leaf.source[i];
            if (which >= 0 && which < leaf.length[i]) {
                if (shown < PLACES_TOLD_MOST) {
                    told.add(begin + which);
                }
                shown++;
            }
            begin += leaf.length[i];
        }
        return shown;
    }

    public int lost(int s) {
        if (s < 0 || s > 1) {
            return NONE;
        }
        int size = stores.sizeOf(s);
        countShown(s, size);
        int unseen = 0;
        told.clear();
        for (int k = 0; k < size; k++) {
            if (scratch[k] == 0) {
                if (unseen == 0) {
                    told.add(k);
                }
                unseen++;
            }
        }
        return unseen;
    }

    public int healable() {
        Leaf leaf = history.current();
        int best = NONE;
        for (int i = 0; i < leaf.pieces; i++) {
            if (best == NONE || leaf.length[i] > leaf.length[best]) {
                best = i;
            }
        }
        told.clear();
        if (best != NONE) {
            told.add(best);
        }
        return leaf.bordersToHeal();
    }

    // ---- search

    public int finds(int p) {
        return firstFrom(p, EXACTLY);
    }

    public int last(int p) {
        int size = readText();
        if (size == 0) {
            return -100;
        }
        if (!isPlace(p)) {
            return NONE;
        }
        for (int q = Math.min(p, shownPage().size - size); q >= 0; q--) {
            if (standsAt(q, size, EXACTLY)) {
                told.tell(page.piecesIn(q, size));
                return q;
            }
        }
        return -2;
    }

    public int many() {
        int size = readText();
        if (size == 0) {
            return -100;
        }
        Page now = shownPage();
        int found = 0;
        int inMore = 0;
        int beside = 0;
        int free = 0;
        for (int q = 0; q <= now.size - size; q++) {
            if (standsAt(q, size, EXACTLY)) {
                found++;
                if (now.piecesIn(q, size) > 1) {
                    inMore++;
                }
                if (q >= free) {
                    beside++;
                    free = q + size;
                }
            }
        }
        told.tell(inMore, beside);
        return found;
    }

    public int fits(int p) {
        return firstFrom(p, WITH_ANY);
    }

    public int folds(int p) {
        return firstFrom(p, CAPITALS_ASIDE);
    }

    // ---- what the book says

    public int pair(int p) {
        Page now = shownPage();
        if (!now.has(p)) {
            return NONE;
        }
        int bracket = now.signAt(p);
        int partner = partnerOf(bracket);
        if (partner == 0) {
            return -3;
        }
        int step = opensPair(bracket) ? 1 : -1;
        int open = 0;
        int deepest = 0;
        for (int q = p; q >= 0 && q < now.size; q += step) {
            int v = now.signAt(q);
            if (v == bracket) {
                open++;
                deepest = Math.max(deepest, open);
            } else if (v == partner) {
                open--;
                if (open == 0) {
                    told.tell(deepest - 1);
                    return q;
                }
            }
        }
        return -2;
    }

    public int nested() {
        Page now = shownPage();
        int open = 0;
        int deepest = 0;
        for (int q = 0; q < now.size; q++) {
            int v = now.signAt(q);
            int partner = partnerOf(v);
            if (partner == 0) {
                continue;
            }
            if (opensPair(v)) {
                scratch[open] = q;
                open++;
                deepest = Math.max(deepest, open);
            } else if (open > 0 && now.signAt(scratch[open - 1]) == partner) {
                open--;
            } else {
                told.tell(deepest);
                return q;
            }
        }
        if (open == 0) {
            return -2;
        }
        told.tell(deepest);
        return scratch[0];
    }

    public int before(int p) {
        Page now = shownPage();
        if (!now.has(p)) {
            return NONE;
        }
        now.fillFallbacks(p, scratch);
        int most = 0;
        int where = 0;
        int held = 0;
        for (int q = 0; q < now.size && p + held < now.size; q++) {
            held = now.holdOn(p, held, now.signAt(q), scratch);
            int begin = q + 1 - held;
            // What is held begins at the first place that may still be the longest: behind p none counts.
            if (begin >= p) {
                break;
            }
            if (held > most) {
                most = held;
                where = begin;
            }
        }
        told.clear();
        if (most > 0) {
            told.add(where);
        }
        return most;
    }

    public int word(int p) {
        if (!isPlace(p)) {
            return NONE;
        }
        Page now = shownPage();
        int inside = isOfWord(now.signAt(p)) ? p : p - 1;
        if (!isOfWord(now.signAt(inside))) {
            return -2;
        }
        int begin = inside;
        while (begin > 0 && isOfWord(now.signAt(begin - 1))) {
            begin--;
        }
        told.tell(now.wordEnd(inside));
        return begin;
    }

    public int words() {
        Page now = shownPage();
        int found = 0;
        int most = 0;
        int where = 0;
        for (int p = 0; p < now.size; p++) {
            int behind = now.wordEnd(p);
            if (behind > p) {
                found++;
                if (behind - p > most) {
                    most = behind - p;
                    where = p;
                }
                p = behind;
            }
        }
        told.clear();
        if (found > 0) {
            told.tell(most, where);
        }
        return found;
    }

    public int rows(int w) {
        if (w < 1 || w > WIDTH_MOST) {
            return NONE;
        }
        Page now = shownPage();
        int made = 0;
        int most = 0;
        int begin = 0;
        while (begin <= now.size) {
            int behind = now.rowEnd(begin, w);
            made++;
            most = Math.max(most, behind - begin);
            // A row that ends with its line, as an empty one does, has the break, or the end of the book, behind it.
            boolean endsLine = behind == begin || behind == now.size || now.signAt(behind) == BREAK;
            begin = endsLine ? behind + 1 : behind;
        }
        told.tell(most);
        return made;
    }

    public int tally(int v) {
        if (!isSign(v)) {
            return NONE;
        }
        Page now = shownPage();
        int found = 0;
        int first = 0;
        int latest = 0;
        for (int p = 0; p < now.size; p++) {
            if (now.signAt(p) == v) {
                first = found == 0 ? p : first;
                latest = p;
                found++;
            }
        }
        told.clear();
        if (found > 0) {
            told.tell(first, latest);
        }
        return found;
    }

    public int alike(int p, int q) {
        if (!isPlace(p) || !isPlace(q)) {
            return NONE;
        }
        Page now = shownPage();
        int same = 0;
        while (now.has(p + same) && now.has(q + same) && now.signAt(p + same) == now.signAt(q + same)) {
            same++;
        }
        told.tell(now.signAt(p + same), now.signAt(q + same));
        return same;
    }

    public int sum(int p, int n) {
        if (n < 0 || p < 0) {
            return NONE;
        }
        if (!hasSigns(p, n)) {
            return -2;
        }
        told.tell(shownPage().sumOf(p, p + n));
        return 0;
    }

    public int differs(int k) {
        if (k < 0 || k > history.undoable) {
            return NONE;
        }
        Page now = shownPage();
        Page then = otherPage;
        then.lay(history.ago(k), stores);
        int shorter = Math.min(now.size, then.size);
        int ahead = 0;
        while (ahead < shorter && now.signAt(ahead) == then.signAt(ahead)) {
            ahead++;
        }
        int behind = 0;
        while (behind < shorter - ahead
                && now.signAt(now.size - 1 - behind) == then.signAt(then.size - 1 - behind)) {
            behind++;
        }
        told.tell(now.size - ahead - behind, then.size - ahead - behind);
        return ahead;
    }

    public int years(int seed, int n) {
        if (n < 1 || n > YEARS_MOST) {
            return NONE;
        }
        int added = stores.added;
        trial.become(history.current());
        Draws draws = new Draws(seed);
        for (int i = 0; i < n; i++) {
            doDrawnEdit(draws);
        }
        otherPage.lay(trial, stores);
        told.tell(otherPage.sumOf(0, otherPage.size), trial.pieces, stores.added);
        // Only the trial shows what was added for it: nothing of it stays.
        stores.added = added;
        return trial.signs;
    }

    // ---- kept

    public boolean keep(int i) {
        if (i < 0 || i >= KEPT_MOST) {
            return false;
        }
        Leaf slot = kept[i];
        if (slot == null) {
            slot = new Leaf();
            kept[i] = slot;
        }
        slot.become(history.current());
        isKept[i] = true;
        return true;
    }

    public boolean again(int i) {
        if (i < 0 || i >= KEPT_MOST || !isKept[i]) {
            return false;
        }
        Leaf slot = kept[i];
        if (slot == null) {
            return false;
        }
        history.current().become(slot);
        history.forget();
        bookIsOther();
        return true;
    }

    public int count(int what) {
        Leaf leaf = history.current();
        switch (what) {
            case 0:
                return leaf.signs;
            case 1:
                return shownPage().breaksIn(0, leaf.signs) + 1;
            case 2:
                return leaf.pieces;
            case 3:
                return stores.added;
            case 4:
                return history.undoable;
            case 5:
                return history.redoable;
            case 6:
                return leaf.marksFrom(0, leaf.signs);
            case 7:
                return told.size;
            case 8:
                return textSize;
            default:
                return -100;
        }
    }

    public long row(int i) throws NoSuchElementException {
        if (i < 0 || i >= told.size) {
            throw new NoSuchElementException("no such number of the row");
        }
        return told.numbers[i];
    }

    // ---- what the calls share

    /** How many signs the text has, which is empty from now on; they can be read till the next sign(). */
    private int readText() {
        int size = textSize;
        textSize = 0;
        return size;
    }

    private int firstThatIsNone(int size) {
        for (int i = 0; i < size && i < text.length; i++) {
            if (!isSign(text[i])) {
                return i;
            }
        }
        return NONE;
    }

    private boolean isPlace(int p) {
        return p >= 0 && p <= history.current().signs;
    }

    private boolean hasSigns(int p, int n) {
        return p >= 0 && n >= 0 && p <= history.current().signs - n;
    }

    private Page shownPage() {
        if (pageIsOld) {
            page.lay(history.current(), stores);
            pageIsOld = false;
        }
        return page;
    }

    private Leaf beginEdit() {
        bookIsOther();
        return history.beginEdit();
    }

    private void bookIsOther() {
        typedBehind = NONE;
        pageIsOld = true;
    }

    /** The text comes in place of n signs at p; inserts() is this with none. */
    private int putInPlace(int p, int n, int size) {
        if (!hasSigns(p, n)) {
            return -100;
        }
        int signs = history.current().signs;
        if (signs - n + size > BOOK_MOST) {
            return -101;
        }
        if (stores.added + size > ADDED_MOST) {
            return -102;
        }
        if (n == 0 && size == 0) {
            return signs;
        }
        Leaf leaf = beginEdit();
        if (n > 0) {
            leaf.take(p, n);
        }
        if (size > 0) {
            leaf.insert(p, stores.addedEnd(), size);
            stores.addText(text, size);
        }
        return leaf.signs;
    }

    private int faultOfDay(int size) {
        int p = 0;
        while (p < size) {
            int act = text[p];
            int length = lengthOfAct(act);
            if (length == 0) {
                return p;
            }
            for (int k = 1; k < length; k++) {
                if (p + k >= size) {
                    return size;
                }
                if (!mayStand(act, k, text[p + k])) {
                    return p + k;
                }
            }
            p += length;
        }
        return NONE;
    }

    private int doAct(int p) {
        switch (text[p]) {
            case 'i':
                int v = p + 5 < text.length ? text[p + 5] : 0;
                return type(numberAt(p + 1, 4), v == '/' ? BREAK : v);
            case 'd':
                return takes(numberAt(p + 1, 4), numberAt(p + 5, 2));
            case 'l':
                return lays(numberAt(p + 1, 4), numberAt(p + 5, 2), numberAt(p + 7, 4));
            case 'm':
                return moves(numberAt(p + 1, 4), numberAt(p + 5, 2), numberAt(p + 7, 4));
            case 'h':
                return heals();
            case 'u':
                return undo();
            default:
                return redo();
        }
    }

    private int numberAt(int p, int digits) {
        int number = 0;
        for (int i = p; i < p + digits && i < text.length; i++) {
            number = number * 10 + text[i] - '0';
        }
        return number;
    }

    /** Leaves in scratch by how many pieces each sign of a store is shown. */
    private void countShown(int s, int size) {
        Leaf leaf = history.current();
        Arrays.fill(scratch, 0);
        for (int i = 0; i < leaf.pieces; i++) {
            if (storeOf(leaf.source[i]) == s) {
                int first = placeInStore(leaf.source[i]);
                for (int k = first; k < first + leaf.length[i] && k < size; k++) {
                    scratch[k]++;
                }
            }
        }
    }

    private int firstFrom(int p, int how) {
        int size = readText();
        if (size == 0) {
            return -100;
        }
        if (!isPlace(p)) {
            return NONE;
        }
        Page now = shownPage();
        for (int q = p; q <= now.size - size; q++) {
            if (standsAt(q, size, how)) {
                told.tell(now.piecesIn(q, size));
                return q;
            }
        }
        return -2;
    }

    private boolean standsAt(int q, int size, int how) {
        for (int i = 0; i < size && i < text.length; i++) {
            if (!isAlike(text[i], page.signAt(q + i), how)) {
                return false;
            }
        }
        return true;
    }

    private void doDrawnEdit(Draws draws) {
        int act = draws.draw(4);
        if (act < 2) {
            int v = draws.draw(26) + 97;
            int p = draws.draw(trial.signs + 1);
            if (trial.signs < BOOK_MOST && stores.added < ADDED_MOST) {
                trial.insert(p, stores.addedEnd(), 1);
                stores.add(v);
            }
        } else if (trial.signs > 0) {
            int p = draws.draw(trial.signs);
            if (act == 2) {
                trial.take(p, 1);
            } else if (trial.signs < BOOK_MOST) {
                trial.lay(p, 1, 0, clip);
            }
        }
    }

    private static boolean isSign(int v) {
        return v >= 1 && v <= HIGHEST_SIGN;
    }

    private static boolean isDigit(int v) {
        return v >= '0' && v <= '9';
    }

    private static boolean isSmall(int v) {
        return v >= 'a' && v <= 'z';
    }

    private static boolean isCapital(int v) {
        return v >= 'A' && v <= 'Z';
    }

    private static boolean isOfWord(int v) {
        return isSmall(v) || isCapital(v) || isDigit(v);
    }

    private static int small(int v) {
        return isCapital(v) ? v - 'A' + 'a' : v;
    }

    private static boolean isAlike(int sought, int v, int how) {
        if (how == WITH_ANY && sought == '?') {
            return isSign(v) && v != BREAK;
        }
        if (how == WITH_ANY && sought == '#') {
            return isDigit(v);
        }
        if (how == CAPITALS_ASIDE) {
            return isSign(v) && small(sought) == small(v);
        }
        return isSign(v) && sought == v;
    }

    private static boolean opensPair(int v) {
        return v == '(' || v == '[' || v == '{';
    }

    /** The bracket that goes with one; 0 for what is none. */
    private static int partnerOf(int v) {
        switch (v) {
            case '(':
                return ')';
            case ')':
                return '(';
            case '[':
                return ']';
            case ']':
                return '[';
            case '{':
                return '}';
            case '}':
                return '{';
            default:
                return 0;
        }
    }

    private static int lengthOfAct(int act) {
        switch (act) {
            case 'i':
                return 6;
            case 'd':
                return 7;
            case 'l':
            case 'm':
                return 11;
            case 'h':
            case 'u':
            case 'r':
                return 1;
            default:
                return 0;
        }
    }

    private static boolean mayStand(int act, int k, int v) {
        if (act == 'i' && k == 5) {
            return isSmall(v) || v == '/';
        }
        return isDigit(v);
    }

    private static int baseOf(int s) {
        return s == 0 ? 0 : ORIGINAL_MOST;
    }

    private static int storeOf(int source) {
        return source < ORIGINAL_MOST ? 0 : 1;
    }

    private static int placeInStore(int source) {
        return source - baseOf(storeOf(source));
    }

    /** The ROW. */
    private static final class Told {
        final long[] numbers = new long[READS_MOST];
        int size;

        void clear() {
            size = 0;
        }

        void add(long number) {
            if (size < numbers.length) {
                numbers[size] = number;
                size++;
            }
        }

        void tell(long a) {
            clear();
            add(a);
        }

        void tell(long a, long b) {
            tell(a);
            add(b);
        }

        void tell(long a, long b, long c) {
            tell(a, b);
            add(c);
        }
    }

    /** Numbers drawn by a seed. */
    private static final class Draws {
        private int drawn;

        Draws(int seed) {
            drawn = seed;
        }

        int draw(int n) {
            drawn = drawn * 1103515245 + 12345;
            return n < 1 ? 0 : (drawn >>> 16) % n;
        }
    }

    /**
     * Both stores in one row, the added from ORIGINAL_MOST on: so one number, a source,
     * says of which store a sign is and where it stands there.
     */
    private static final class Stores {
        final byte[] signs = new byte[ORIGINAL_MOST + ADDED_MOST];
        int original;
        int added;

        int sizeOf(int s) {
            return s == 0 ? original : added;
        }

        int addedEnd() {
            return ORIGINAL_MOST + added;
        }

        int signAt(int source) {
            return source >= 0 && source < signs.length ? signs[source] : 0;
        }

        void renew(int[] text, int size, int times) {
            original = 0;
            added = 0;
            for (int n = 0; n < times; n++) {
                for (int i = 0; i < size && i < text.length && original < ORIGINAL_MOST; i++) {
                    signs[original] = (byte) text[i];
                    original++;
                }
            }
        }

        void add(int v) {
            if (added < ADDED_MOST) {
                signs[ORIGINAL_MOST + added] = (byte) v;
                added++;
            }
        }

        void addText(int[] text, int size) {
            for (int i = 0; i < size && i < text.length; i++) {
                add(text[i]);
            }
        }

        void addBlanks(int n) {
            for (int i = 0; i < n; i++) {
                add(BLANK);
            }
        }

        int breaksIn(int source, int length) {
            int breaks = 0;
            for (int i = source; i < source + length; i++) {
                if (signAt(i) == BREAK) {
                    breaks++;
                }
            }
            return breaks;
        }
    }

    /** The book at one time: its pieces and its marks. */
    private static final class Leaf {
        int[] source = new int[PIECES_AT_FIRST];
        int[] length = new int[PIECES_AT_FIRST];
        int pieces;
        int signs;
        final int[] marked = new int[MARKS_MOST];
        final boolean[] sticks = new boolean[MARKS_MOST];

        Leaf() {
            Arrays.fill(marked, NONE);
        }

        void clear() {
            pieces = 0;
            signs = 0;
            Arrays.fill(marked, NONE);
        }

        void become(Leaf other) {
            pieces = 0;
            openGap(0, other.pieces);
            System.arraycopy(other.source, 0, source, 0, other.pieces);
            System.arraycopy(other.length, 0, length, 0, other.pieces);
            signs = other.signs;
            for (int i = 0; i < MARKS_MOST; i++) {
                marked[i] = other.marked[i];
                sticks[i] = other.sticks[i];
            }
        }

        void addPiece(int first, int n) {
            openGap(pieces, 1);
            source[pieces - 1] = first;
            length[pieces - 1] = n;
            signs += n;
        }

        /** Rows grow by doubling and are used again, as nothing of what a run makes is given back. */
        void openGap(int i, int n) {
            int more = pieces + n;
            if (more > source.length) {
                int size = Math.max(more, Math.min(2 * source.length, BOOK_MOST));
                source = Arrays.copyOf(source, size);
                length = Arrays.copyOf(length, size);
            }
            System.arraycopy(source, i, source, i + n, pieces - i);
            System.arraycopy(length, i, length, i + n, pieces - i);
            pieces = more;
        }

        void closeGap(int i, int n) {
            System.arraycopy(source, i + n, source, i, pieces - i - n);
            System.arraycopy(length, i + n, length, i, pieces - i - n);
            pieces -= n;
        }

        /** Sees to it that a piece begins at p: that one, or as many as there are at the end. */
        int cutAt(int p) {
            int begin = 0;
            for (int i = 0; i < pieces; i++) {
                if (begin >= p) {
                    return i;
                }
                int ahead = p - begin;
                begin += length[i];
                if (begin > p) {
                    openGap(i + 1, 1);
                    source[i + 1] = source[i] + ahead;
                    length[i + 1] = length[i] - ahead;
                    length[i] = ahead;
                    return i + 1;
                }
            }
            return pieces;
        }

        /** The n signs that come behind the added, which ends at first ahead of this, come at p. */
        void insert(int p, int first, int n) {
            int i = cutAt(p);
            // A piece of the original may end at the same number: it must not grow into the other store.
            if (i > 0 && storeOf(source[i - 1]) == 1 && source[i - 1] + length[i - 1] == first) {
                length[i - 1] += n;
            } else {
                openGap(i, 1);
                source[i] = first;
                length[i] = n;
            }
            signs += n;
            marksGoOn(p, n);
        }

        void take(int p, int n) {
            dropSigns(p, n);
            marksGoBack(p, n);
        }

        void lay(int p, int n, int q, Leaf clip) {
            clip.becomePart(this, p, n);
            layPieces(clip, q);
            marksGoOn(q, n);
        }

        void move(int p, int n, int goal, Leaf clip) {
            clip.becomePart(this, p, n);
            dropSigns(p, n);
            layPieces(clip, goal);
            marksMove(p, n, goal);
        }

        private void dropSigns(int p, int n) {
            int i = cutAt(p);
            int behind = cutAt(p + n);
            closeGap(i, behind - i);
            signs -= n;
        }

        private void layPieces(Leaf clip, int q) {
            int i = cutAt(q);
            openGap(i, clip.pieces);
            System.arraycopy(clip.source, 0, source, i, clip.pieces);
            System.arraycopy(clip.length, 0, length, i, clip.pieces);
            signs += clip.signs;
        }

        /** The pieces of another leaf that show n signs from p on, cut to these. */
        private void becomePart(Leaf other, int p, int n) {
            clear();
            int begin = 0;
            for (int i = 0; i < other.pieces; i++) {
                int first = Math.max(p, begin);
                int behind = Math.min(p + n, begin + other.length[i]);
                if (first < behind) {
                    addPiece(other.source[i] + first - begin, behind - first);
                }
                begin += other.length[i];
            }
        }

        int piecesOf(int s) {
            int found = 0;
            for (int i = 0; i < pieces; i++) {
                if (storeOf(source[i]) == s) {
                    found++;
                }
            }
            return found;
        }

        int beginOf(int piece) {
            int begin = 0;
            for (int i = 0; i < piece && i < pieces; i++) {
                begin += length[i];
            }
            return begin;
        }

        private boolean goOn(int i, int k) {
            return storeOf(source[i]) == storeOf(source[k]) && source[i] + length[i] == source[k];
        }

        int bordersToHeal() {
            int borders = 0;
            for (int i = 1; i < pieces; i++) {
                if (goOn(i - 1, i)) {
                    borders++;
                }
            }
            return borders;
        }

        int joinPieces() {
            int left = 0;
            for (int i = 0; i < pieces; i++) {
                if (left > 0 && goOn(left - 1, i)) {
                    length[left - 1] += length[i];
                } else {
                    source[left] = source[i];
                    length[left] = length[i];
                    left++;
                }
            }
            int fewer = pieces - left;
            pieces = left;
            return fewer;
        }

        void setMark(int i, int p, boolean stick) {
            if (i >= 0 && i < MARKS_MOST) {
                marked[i] = p;
                sticks[i] = stick;
            }
        }

        int marksFrom(int p, int q) {
            int among = 0;
            for (int i = 0; i < MARKS_MOST; i++) {
                if (marked[i] != NONE && marked[i] >= p && marked[i] <= q) {
                    among |= 1 << i;
                }
            }
            return among;
        }

        private void marksGoOn(int p, int n) {
            for (int i = 0; i < MARKS_MOST; i++) {
                if (marked[i] > p || (marked[i] == p && sticks[i])) {
                    marked[i] += n;
                }
            }
        }

        private void marksGoBack(int p, int n) {
            for (int i = 0; i < MARKS_MOST; i++) {
                if (marked[i] >= p + n) {
                    marked[i] -= n;
                } else if (marked[i] > p) {
                    marked[i] = p;
                }
            }
        }

        private void marksMove(int p, int n, int goal) {
            for (int i = 0; i < MARKS_MOST; i++) {
                int was = marked[i];
                if (was > p && was < p + n) {
                    marked[i] = goal + was - p;
                } else {
                    int left = was >= p + n ? was - n : was;
                    marked[i] = left > goal || (left == goal && sticks[i]) ? left + n : left;
                }
            }
        }
    }

    /**
     * The leaves that can be undone, the one that is, and those that can be done again, side by side
     * in a ring: as many as can be undone and done again are never more than the edits that are kept.
     */
    private static final class History {
        private final Leaf[] leaves = new Leaf[EDITS_MOST + 1];
        private int slot;
        int undoable;
        int redoable;

        Leaf current() {
            return ago(0);
        }

        Leaf ago(int k) {
            int i = Math.floorMod(slot - k, EDITS_MOST + 1);
            if (leaves[i] == null) {
                leaves[i] = new Leaf();
            }
            return leaves[i];
        }

        Leaf beginEdit() {
            Leaf ahead = ago(0);
            slot = (slot + 1) % (EDITS_MOST + 1);
            undoable = Math.min(undoable + 1, EDITS_MOST);
            redoable = 0;
            Leaf leaf = ago(0);
            leaf.become(ahead);
            return leaf;
        }

        void goBack() {
            slot = Math.floorMod(slot - 1, EDITS_MOST + 1);
            undoable--;
            redoable++;
        }

        void goOn() {
            slot = (slot + 1) % (EDITS_MOST + 1);
            undoable++;
            redoable--;
        }

        void forget() {
            undoable = 0;
            redoable = 0;
        }
    }

    /** The signs of a book laid out, with the piece that shows each. */
    private static final class Page {
        private final byte[] signs = new byte[BOOK_MOST];
        private final int[] shownBy = new int[BOOK_MOST];
        int size;

        void lay(Leaf leaf, Stores stores) {
            size = 0;
            for (int i = 0; i < leaf.pieces; i++) {
                int source = leaf.source[i];
                int behind = source + leaf.length[i];
                for (int k = source; k < behind && size < BOOK_MOST; k++) {
                    signs[size] = (byte) stores.signAt(k);
                    shownBy[size] = i;
                    size++;
                }
            }
        }

        boolean has(int p) {
            return p >= 0 && p < size;
        }

        int signAt(int p) {
            return p >= 0 && p < size ? signs[p] : 0;
        }

        int pieceAt(int p) {
            return p >= 0 && p < size ? shownBy[p] : 0;
        }

        int piecesIn(int p, int n) {
            return pieceAt(p + n - 1) - pieceAt(p) + 1;
        }

        int breaksIn(int p, int behind) {
            int breaks = 0;
            for (int i = p; i < behind && i < size; i++) {
                if (signAt(i) == BREAK) {
                    breaks++;
                }
            }
            return breaks;
        }

        int lineStart(int line) {
            int left = line;
            int p = 0;
            while (p < size && left > 0) {
                if (signAt(p) == BREAK) {
                    left--;
                }
                p++;
            }
            return left == 0 ? p : NONE;
        }

        int lineBegin(int p) {
            int begin = Math.max(p, 0);
            while (begin > 0 && signAt(begin - 1) != BREAK) {
                begin--;
            }
            return begin;
        }

        int lineEnd(int p) {
            int behind = p;
            while (behind < size && signAt(behind) != BREAK) {
                behind++;
            }
            return behind;
        }

        int wordEnd(int p) {
            int behind = p;
            while (behind < size && isOfWord(signAt(behind))) {
                behind++;
            }
            return behind;
        }

        /** Where the row that begins at a place ends, if none may have more than w signs. */
        int rowEnd(int begin, int w) {
            int behind = lineEnd(begin);
            if (behind - begin <= w) {
                return behind;
            }
            for (int p = begin + w; p > begin; p--) {
                if (signAt(p - 1) == BLANK) {
                    return p;
                }
            }
            return begin + w;
        }

        int sumOf(int p, int behind) {
            int sum = 7;
            for (int i = p; i < behind; i++) {
                sum = 31 * sum + signAt(i);
            }
            return sum;
        }

        /**
         * Of the signs from p on: for each number of them, the most fewer that stand at its end, too.
         * With these the book is looked through once, however much of it is alike.
         */
        void fillFallbacks(int p, int[] fallbacks) {
            int held = 0;
            for (int k = 0; p + k < size && k < fallbacks.length; k++) {
                if (k > 0) {
                    held = holdOn(p, held, signAt(p + k), fallbacks);
                }
                fallbacks[k] = held;
            }
        }

        /** How many signs from p on are held, as v comes behind those that were. */
        int holdOn(int p, int held, int v, int[] fallbacks) {
            int most = Math.min(held, fallbacks.length);
            while (most > 0 && signAt(p + most) != v) {
                most = Math.min(fallbacks[most - 1], most - 1);
            }
            return signAt(p + most) == v ? most + 1 : most;
        }
    }
}
