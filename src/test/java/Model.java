import java.util.ArrayDeque;
import java.util.ArrayList;
import java.util.Arrays;
import java.util.List;
import java.util.regex.Matcher;
import java.util.regex.Pattern;

/**
 * The document told another way, slow and plain: a book is a list of signs, each with its store, its place
 * there, and whether a piece begins with it. RandomRunsTest asks it what PieceBook should answer.
 */
final class Model {
    static final class Cell {
        final int store;
        final int index;
        final boolean begins;

        Cell(int store, int index, boolean begins) {
            this.store = store;
            this.index = index;
            this.begins = begins;
        }

        Cell begun() {
            return new Cell(store, index, true);
        }
    }

    static final class State {
        List<Cell> cells = new ArrayList<>();
        int[] marks = {-1, -1, -1, -1, -1, -1, -1, -1};
        int[] sticks = new int[8];

        State copy() {
            State s = new State();
            s.cells = new ArrayList<>(cells);
            s.marks = marks.clone();
            s.sticks = sticks.clone();
            return s;
        }
    }

    String text = "";
    final StringBuilder[] stores = {new StringBuilder(), new StringBuilder()};
    State now = new State();
    List<State> past = new ArrayList<>();
    List<State> future = new ArrayList<>();
    State[] kept = new State[3];
    /** The place of the type() to which another may belong; below -1: none. */
    int typed = -9;
    long[] row = {};

    Model copy() {
        Model m = new Model();
        m.stores[0].append(stores[0]);
        m.stores[1].append(stores[1]);
        m.now = now.copy();
        return m;
    }

    // ---- help

    int size() {
        return now.cells.size();
    }

    boolean noPlace(int p) {
        return p < 0 || p > size();
    }

    String signs(State s) {
        StringBuilder b = new StringBuilder();
        for (Cell c : s.cells) {
            b.append(stores[c.store].charAt(c.index));
        }
        return b.toString();
    }

    String book() {
        return signs(now);
    }

    String[] lines() {
        return book().split("\n", -1);
    }

    int lineStart(int line) {
        String[] all = lines();
        int p = 0;
        for (int i = 0; i < line; i++) {
            p += all[i].length() + 1;
        }
        return p;
    }

    List<List<Cell>> pieces(State s) {
        List<List<Cell>> all = new ArrayList<>();
        for (int i = 0; i < s.cells.size(); i++) {
            if (i == 0 || s.cells.get(i).begins) {
                all.add(new ArrayList<>());
            }
            all.get(all.size() - 1).add(s.cells.get(i));
        }
        return all;
    }

    int pieceOf(int p) {
        int piece = 0;
        for (int i = 1; i <= p; i++) {
            if (now.cells.get(i).begins) {
                piece++;
            }
        }
        return piece;
    }

    void tell(long... numbers) {
        row = numbers;
    }

    String read() {
        String t = text;
        text = "";
        return t;
    }

    static int wrongSign(String t) {
        for (int i = 0; i < t.length(); i++) {
            if (t.charAt(i) == 0 || t.charAt(i) > 127) {
                return i;
            }
        }
        return -1;
    }

    void edit() {
        past.add(now.copy());
        if (past.size() > 30) {
            past.remove(0);
        }
        future.clear();
        typed = -9;
    }

    void begin(int p) {
        if (p < size()) {
            now.cells.set(p, now.cells.get(p).begun());
        }
    }

    void come(int p, int n) {
        for (int i = 0; i < 8; i++) {
            if (now.marks[i] >= 0 && (now.marks[i] > p || now.marks[i] == p && now.sticks[i] == 1)) {
                now.marks[i] += n;
            }
        }
    }

    void insert(int p, String t) {
        int end = stores[1].length();
        boolean pieceEnds = p == size() || p > 0 && now.cells.get(p).begins;
        boolean joins = p > 0 && pieceEnds
                && now.cells.get(p - 1).store == 1 && now.cells.get(p - 1).index == end - 1;
        begin(p);
        stores[1].append(t);
        for (int i = 0; i < t.length(); i++) {
            now.cells.add(p + i, new Cell(1, end + i, i == 0 && !joins));
        }
        come(p, t.length());
    }

    void take(int p, int n) {
        now.cells.subList(p, p + n).clear();
        begin(p);
        for (int i = 0; i < 8; i++) {
            int m = now.marks[i];
            if (m >= p + n) {
                now.marks[i] = m - n;
            } else if (m > p) {
                now.marks[i] = p;
            }
        }
    }

    void layCells(List<Cell> copied, int q) {
        begin(q);
        now.cells.addAll(q, copied);
        begin(q);
    }

    // ---- the text, the original

    int sign(int v) {
        if (text.length() > 76) {
            return -1;
        }
        text += "" + (char) (v >>> 24) + (char) (v >>> 16 & 255) + (char) (v >>> 8 & 255) + (char) (v & 255);
        return text.length();
    }

    boolean end(int n) {
        if (n < 0 || n > text.length()) {
            return false;
        }
        text = text.substring(0, n);
        return true;
    }

    int opens(int n) {
        String t = read();
        if (wrongSign(t) >= 0) {
            return -1 - wrongSign(t);
        }
        if (n < 1 || n > 20) {
            return -100;
        }
        stores[0].setLength(0);
        stores[0].append(t.repeat(n));
        stores[1].setLength(0);
        now = new State();
        for (int i = 0; i < stores[0].length(); i++) {
            now.cells.add(new Cell(0, i, i == 0));
        }
        past.clear();
        future.clear();
        Arrays.fill(kept, null);
        typed = -9;
        return size();
    }

    Integer store(int s, int what) {
        if (s != 0 && s != 1 || what < 0 || what > 2) {
            return null;
        }
        if (what == 0) {
            return stores[s].length();
        }
        if (what == 1) {
            return (int) stores[s].chars().filter(c -> c == 10).count();
        }
        return (int) pieces(now).stream().filter(x -> x.get(0).store == s).count();
    }

    // ---- what is done

    int inserts(int p) {
        String t = read();
        if (wrongSign(t) >= 0) {
            return -1 - wrongSign(t);
        }
        if (noPlace(p)) {
            return -100;
        }
        if (size() + t.length() > 3000) {
            return -101;
        }
        if (stores[1].length() + t.length() > 6000) {
            return -102;
        }
        if (!t.isEmpty()) {
            edit();
            insert(p, t);
        }
        return size();
    }

    int type(int p, int v) {
        if (v < 1 || v > 127) {
            return -1;
        }
        if (noPlace(p)) {
            return -2;
        }
        if (size() == 3000) {
            return -3;
        }
        if (stores[1].length() == 6000) {
            return -4;
        }
        if (typed + 1 != p) {
            edit();
        }
        insert(p, "" + (char) v);
        typed = p;
        return size();
    }

    int takes(int p, int n) {
        if (n < 1 || p < 0) {
            return -1;
        }
        if ((long) p + n > size()) {
            return -2;
        }
        int breaks = (int) book().substring(p, p + n).chars().filter(c -> c == 10).count();
        edit();
        take(p, n);
        return breaks;
    }

    int puts(int p, int n) {
        String t = read();
        if (wrongSign(t) >= 0) {
            return -1 - wrongSign(t);
        }
        if (p < 0 || n < 0 || (long) p + n > size()) {
            return -100;
        }
        if (size() - n + t.length() > 3000) {
            return -101;
        }
        if (stores[1].length() + t.length() > 6000) {
            return -102;
        }
        if (n == 0 && t.isEmpty()) {
            return size();
        }
        edit();
        if (n > 0) {
            take(p, n);
        }
        if (!t.isEmpty()) {
            insert(p, t);
        }
        return size();
    }

    int lays(int p, int n, int q) {
        if (n < 1 || p < 0 || q < 0) {
            return -1;
        }
        if ((long) p + n > size() || q > size()) {
            return -2;
        }
        if (size() + n > 3000) {
            return -3;
        }
        edit();
        layCells(new ArrayList<>(now.cells.subList(p, p + n)), q);
        come(q, n);
        return size();
    }

    int moves(int p, int n, int q) {
        if (n < 1 || p < 0 || q < 0) {
            return -1;
        }
        if ((long) p + n > size() || q > size() || q > p && q < p + n) {
            return -2;
        }
        edit();
        int[] was = now.marks.clone();
        // As the document says: laid at q first, then taken where they were.
        layCells(new ArrayList<>(now.cells.subList(p, p + n)), q);
        int old = q <= p ? p + n : p;
        now.cells.subList(old, old + n).clear();
        begin(old);
        int goal = q <= p ? q : q - n;
        for (int i = 0; i < 8; i++) {
            if (was[i] >= p + n) {
                now.marks[i] -= n;
            }
        }
        come(goal, n);
        for (int i = 0; i < 8; i++) {
            if (was[i] > p && was[i] < p + n) {
                now.marks[i] = goal + (was[i] - p);
            }
        }
        return goal;
    }

    int cuts(int line) {
        String[] all = lines();
        if (line < 0 || line >= all.length) {
            return -1;
        }
        if (size() == 0) {
            return -2;
        }
        int begin = lineStart(line);
        int n = all[line].length();
        if (line < all.length - 1) {
            n++;
        } else if (line > 0) {
            begin--;
            n++;
        }
        edit();
        take(begin, n);
        return n;
    }

    int indents(int a, int b, int n) {
        if (n < 1 || n > 8) {
            return -1;
        }
        if (a < 0 || b < a || b >= lines().length) {
            return -2;
        }
        int more = (b - a + 1) * n;
        if (size() + more > 3000) {
            return -3;
        }
        if (stores[1].length() + more > 6000) {
            return -4;
        }
        edit();
        for (int line = b; line >= a; line--) {
            insert(lineStart(line), " ".repeat(n));
        }
        return size();
    }

    boolean heals(int border) {
        Cell x = now.cells.get(border - 1);
        Cell y = now.cells.get(border);
        return y.begins && x.store == y.store && x.index + 1 == y.index;
    }

    int borders() {
        int found = 0;
        for (int i = 1; i < size(); i++) {
            if (heals(i)) {
                found++;
            }
        }
        return found;
    }

    int heals() {
        int found = borders();
        if (found == 0) {
            return 0;
        }
        edit();
        for (int i = 1; i < size(); i++) {
            if (heals(i)) {
                Cell c = now.cells.get(i);
                now.cells.set(i, new Cell(c.store, c.index, false));
            }
        }
        return found;
    }

    int marks(int i, int p, int s) {
        if (i < 0 || i > 7 || s != 0 && s != 1) {
            return -3;
        }
        if (p < -1 || p > size()) {
            return -2;
        }
        now.marks[i] = p;
        now.sticks[i] = s;
        typed = -9;
        return p;
    }

    private static final Pattern ACT = Pattern.compile("i\\d{4}[a-z/]|d\\d{6}|[lm]\\d{10}|[hur]");

    /** Where the text stops being the beginning of a day: tried by all ways to go on. */
    private static int fault(String t) {
        Matcher m = ACT.matcher(t);
        int p = 0;
        while (p < t.length() && m.region(p, t.length()).lookingAt()) {
            p = m.end();
        }
        if (p == t.length()) {
            return -1;
        }
        String rest = t.substring(p);
        String whole = rest.charAt(0) == 'i' ? "i0000a" : rest.charAt(0) == 'd' ? "d000000"
                : rest.charAt(0) == 'l' ? "l0000000000" : rest.charAt(0) == 'm' ? "m0000000000" : "";
        for (int n = 1; n <= rest.length(); n++) {
            if (n > whole.length() || !ACT.matcher(rest.substring(0, n) + whole.substring(n)).matches()) {
                return p + n - 1;
            }
        }
        return t.length();
    }

    int day() {
        String t = read();
        int wrong = fault(t);
        if (wrong >= 0) {
            return -1 - wrong;
        }
        int done = 0;
        boolean refused = false;
        Matcher m = ACT.matcher(t);
        while (!refused && m.find()) {
            String a = m.group();
            int answer;
            switch (a.charAt(0)) {
                case 'i':
                    answer = type(number(a, 1, 5), a.charAt(5) == '/' ? 10 : a.charAt(5));
                    break;
                case 'd':
                    answer = takes(number(a, 1, 5), number(a, 5, 7));
                    break;
                case 'l':
                    answer = lays(number(a, 1, 5), number(a, 5, 7), number(a, 7, 11));
                    break;
                case 'm':
                    answer = moves(number(a, 1, 5), number(a, 5, 7), number(a, 7, 11));
                    break;
                case 'h':
                    answer = heals();
                    break;
                case 'u':
                    answer = undo();
                    break;
                default:
                    answer = redo();
            }
            refused = answer < 0;
            done += refused ? 0 : 1;
        }
        tell(refused ? 1 : 0, size());
        return done;
    }

    private static int number(String a, int from, int to) {
        return Integer.parseInt(a.substring(from, to));
    }

    int undo() {
        if (past.isEmpty()) {
            return -1;
        }
        future.add(now.copy());
        now = past.remove(past.size() - 1);
        typed = -9;
        return past.size();
    }

    int redo() {
        if (future.isEmpty()) {
            return -1;
        }
        past.add(now.copy());
        now = future.remove(future.size() - 1);
        typed = -9;
        return future.size();
    }

    // ---- signs, lines, places

    int at(int p) {
        return p < 0 || p >= size() ? -1 : book().charAt(p);
    }

    int reads(int p, int n) {
        if (noPlace(p) || n < 1 || n > 16) {
            return -1;
        }
        row = book().substring(p, Math.min(size(), p + n)).chars().asLongStream().toArray();
        return row.length;
    }

    int line(int p) {
        if (noPlace(p)) {
            return -1;
        }
        String ahead = book().substring(0, p);
        tell(p - 1 - ahead.lastIndexOf('\n'));
        return ahead.split("\n", -1).length - 1;
    }

    int starts(int line) {
        if (line < 0 || line >= lines().length) {
            return -1;
        }
        tell(lines()[line].length());
        return lineStart(line);
    }

    int place(int line, int many) {
        if (line < 0 || line >= lines().length || many < 0) {
            return -1;
        }
        tell(Math.min(many, lines()[line].length()));
        return lineStart(line) + (int) row[0];
    }

    int longest() {
        int best = 0;
        int empty = 0;
        String[] all = lines();
        for (int i = 0; i < all.length; i++) {
            best = all[i].length() > all[best].length() ? i : best;
            empty += all[i].isEmpty() ? 1 : 0;
        }
        tell(all[best].length(), empty);
        return best;
    }

    int mark(int i) {
        return i < 0 || i > 7 ? -1 : now.marks[i] < 0 ? -2 : now.marks[i];
    }

    int between(int p, int q) {
        if (q < p) {
            return -1;
        }
        int bits = 0;
        for (int i = 0; i < 8; i++) {
            bits += now.marks[i] >= 0 && now.marks[i] >= p && now.marks[i] <= q ? 1 << i : 0;
        }
        tell(Integer.bitCount(bits));
        return bits;
    }

    // ---- pieces

    Integer piece(int i, int what) {
        List<List<Cell>> all = pieces(now);
        if (i < 0 || i >= all.size() || what < 0 || what > 4) {
            return null;
        }
        List<Cell> piece = all.get(i);
        switch (what) {
            case 0:
                return piece.get(0).store;
            case 1:
                return piece.get(0).index;
            case 2:
                return piece.size();
            case 3:
                return (int) piece.stream().filter(c -> stores[c.store].charAt(c.index) == 10).count();
            default:
                int begin = 0;
                for (List<Cell> ahead : all.subList(0, i)) {
                    begin += ahead.size();
                }
                return begin;
        }
    }

    int shows(int p) {
        if (p < 0 || p >= size()) {
            return -1;
        }
        int piece = pieceOf(p);
        Cell c = now.cells.get(p);
        tell(p - piece(piece, 4), c.store, c.index);
        return piece;
    }

    int from(int s, int k) {
        if (s != 0 && s != 1 || k < 0 || k >= stores[s].length()) {
            return -1;
        }
        List<Long> places = new ArrayList<>();
        for (int p = 0; p < size(); p++) {
            if (now.cells.get(p).store == s && now.cells.get(p).index == k) {
                places.add((long) p);
            }
        }
        row = places.stream().limit(12).mapToLong(x -> x).toArray();
        return places.size();
    }

    int lost(int s) {
        if (s != 0 && s != 1) {
            return -1;
        }
        boolean[] shown = new boolean[stores[s].length()];
        for (Cell c : now.cells) {
            if (c.store == s) {
                shown[c.index] = true;
            }
        }
        int lost = 0;
        int first = -1;
        for (int k = shown.length - 1; k >= 0; k--) {
            if (!shown[k]) {
                lost++;
                first = k;
            }
        }
        row = lost == 0 ? new long[0] : new long[] {first};
        return lost;
    }

    int healable() {
        int best = -1;
        List<List<Cell>> all = pieces(now);
        for (int i = all.size() - 1; i >= 0; i--) {
            if (best < 0 || all.get(i).size() >= all.get(best).size()) {
                best = i;
            }
        }
        row = best < 0 ? new long[0] : new long[] {best};
        return borders();
    }

    // ---- search

    private int found(int p, int n) {
        if (p < 0) {
            return -2;
        }
        tell(pieceOf(p + n - 1) - pieceOf(p) + 1);
        return p;
    }

    int finds(int p) {
        String t = read();
        return t.isEmpty() ? -100 : noPlace(p) ? -1 : found(book().indexOf(t, p), t.length());
    }

    int last(int p) {
        String t = read();
        return t.isEmpty() ? -100 : noPlace(p) ? -1 : found(book().lastIndexOf(t, p), t.length());
    }

    int many() {
        String t = read();
        if (t.isEmpty()) {
            return -100;
        }
        String b = book();
        int all = 0;
        int more = 0;
        for (int p = b.indexOf(t); p >= 0; p = b.indexOf(t, p + 1)) {
            all++;
            more += pieceOf(p + t.length() - 1) > pieceOf(p) ? 1 : 0;
        }
        int beside = 0;
        for (int p = b.indexOf(t); p >= 0; p = b.indexOf(t, p + t.length())) {
            beside++;
        }
        tell(more, beside);
        return all;
    }

    int fits(int p) {
        String t = read();
        if (t.isEmpty()) {
            return -100;
        }
        if (noPlace(p)) {
            return -1;
        }
        StringBuilder b = new StringBuilder();
        for (char c : t.toCharArray()) {
            b.append(c == '?' ? "[^\n]" : c == '#' ? "[0-9]" : Pattern.quote("" + c));
        }
        Matcher m = Pattern.compile(b.toString()).matcher(book());
        return found(m.find(p) ? m.start() : -1, t.length());
    }

    private static String small(String s) {
        StringBuilder b = new StringBuilder();
        for (char c : s.toCharArray()) {
            int i = "ABCDEFGHIJKLMNOPQRSTUVWXYZ".indexOf(c);
            b.append(i < 0 ? c : "abcdefghijklmnopqrstuvwxyz".charAt(i));
        }
        return b.toString();
    }

    int folds(int p) {
        String t = read();
        return t.isEmpty() ? -100 : noPlace(p) ? -1 : found(small(book()).indexOf(small(t), p), t.length());
    }

    // ---- what the book says

    int pair(int p) {
        if (p < 0 || p >= size()) {
            return -1;
        }
        String b = book();
        int kind = "()[]{}".indexOf(b.charAt(p));
        if (kind < 0) {
            return -3;
        }
        char opener = "()[]{}".charAt(kind / 2 * 2);
        char closer = "()[]{}".charAt(kind / 2 * 2 + 1);
        int other = kind % 2 == 0 ? closing(b, p, opener, closer) : opening(b, p, opener, closer);
        if (other < 0) {
            return -2;
        }
        tell(depth(b.substring(Math.min(p, other) + 1, Math.max(p, other)), opener, closer));
        return other;
    }

    /** The shortest stretch from p on in which as many close as open. */
    private static int closing(String b, int p, char opener, char closer) {
        for (int q = p + 1; q < b.length(); q++) {
            if (times(b.substring(p, q + 1), opener) == times(b.substring(p, q + 1), closer)) {
                return q;
            }
        }
        return -1;
    }

    private static int opening(String b, int p, char opener, char closer) {
        for (int q = p - 1; q >= 0; q--) {
            if (times(b.substring(q, p + 1), opener) == times(b.substring(q, p + 1), closer)) {
                return q;
            }
        }
        return -1;
    }

    private static long times(String s, char c) {
        return s.chars().filter(x -> x == c).count();
    }

    /** Innermost pairs are taken away till none is left: so often, so deep. */
    private static int depth(String s, char opener, char closer) {
        String only = s.replaceAll("[^" + Pattern.quote("" + opener + closer) + "]", "");
        int depth = 0;
        while (!only.isEmpty()) {
            String[] parts = {only};
            only = only.replace("" + opener + closer, "");
            if (only.equals(parts[0])) {
                throw new IllegalStateException("not nested: " + s);
            }
            depth++;
        }
        return depth;
    }

    int nested() {
        ArrayDeque<Integer> open = new ArrayDeque<>();
        String b = book();
        int most = 0;
        for (int q = 0; q < b.length(); q++) {
            int kind = "([{)]}".indexOf(b.charAt(q));
            if (kind < 0) {
                continue;
            }
            if (kind < 3) {
                open.addLast(q);
                most = Math.max(most, open.size());
            } else if (open.isEmpty() || "([{".indexOf(b.charAt(open.removeLast())) != kind - 3) {
                tell(most);
                return q;
            }
        }
        if (open.isEmpty()) {
            return -2;
        }
        tell(most);
        return open.getFirst();
    }

    int before(int p) {
        if (p < 0 || p >= size()) {
            return -1;
        }
        String b = book();
        int most = 0;
        int where = -1;
        for (int q = 0; q < p; q++) {
            int n = 0;
            while (p + n < b.length() && b.charAt(p + n) == b.charAt(q + n)) {
                n++;
            }
            if (n > most) {
                most = n;
                where = q;
            }
        }
        row = most == 0 ? new long[0] : new long[] {where};
        return most;
    }

    private static final Pattern WORD = Pattern.compile("[a-zA-Z0-9]+");

    int word(int p) {
        if (noPlace(p)) {
            return -1;
        }
        Matcher m = WORD.matcher(book());
        int begin = -2;
        while (m.find()) {
            // Of two that touch p the later one has the sign p.
            if (m.start() <= p && m.end() >= p) {
                begin = m.start();
                tell(m.end());
            }
        }
        return begin;
    }

    int words() {
        Matcher m = WORD.matcher(book());
        int n = 0;
        int most = 0;
        row = new long[0];
        while (m.find()) {
            n++;
            if (m.group().length() > most) {
                most = m.group().length();
                tell(most, m.start());
            }
        }
        return n;
    }

    int rows(int w) {
        if (w < 1 || w > 80) {
            return -1;
        }
        List<String> rows = new ArrayList<>();
        for (String line : lines()) {
            String rest = line;
            while (rest.length() > w) {
                int blank = rest.substring(0, w).lastIndexOf(' ');
                int n = blank < 0 ? w : blank + 1;
                rows.add(rest.substring(0, n));
                rest = rest.substring(n);
            }
            rows.add(rest);
        }
        tell(rows.stream().mapToInt(String::length).max().getAsInt());
        return rows.size();
    }

    int tally(int v) {
        if (v < 1 || v > 127) {
            return -1;
        }
        String b = book();
        row = b.indexOf(v) < 0 ? new long[0] : new long[] {b.indexOf(v), b.lastIndexOf(v)};
        return (int) times(b, (char) v);
    }

    int alike(int p, int q) {
        if (noPlace(p) || noPlace(q)) {
            return -1;
        }
        String x = book().substring(p);
        String y = book().substring(q);
        int n = 0;
        while (n < x.length() && n < y.length() && x.charAt(n) == y.charAt(n)) {
            n++;
        }
        tell(n < x.length() ? x.charAt(n) : 0, n < y.length() ? y.charAt(n) : 0);
        return n;
    }

    private static int hash(String s) {
        int h = 7;
        for (char c : s.toCharArray()) {
            h = h * 31 + c;
        }
        return h;
    }

    int sum(int p, int n) {
        if (n < 0 || p < 0) {
            return -1;
        }
        if ((long) p + n > size()) {
            return -2;
        }
        tell(hash(book().substring(p, p + n)));
        return 0;
    }

    int differs(int k) {
        if (k < 0 || k > past.size()) {
            return -1;
        }
        String x = book();
        String y = k == 0 ? x : signs(past.get(past.size() - k));
        int n = 0;
        while (n < x.length() && n < y.length() && x.charAt(n) == y.charAt(n)) {
            n++;
        }
        String a = x.substring(n);
        String b = y.substring(n);
        while (!a.isEmpty() && !b.isEmpty() && a.charAt(a.length() - 1) == b.charAt(b.length() - 1)) {
            a = a.substring(0, a.length() - 1);
            b = b.substring(0, b.length() - 1);
        }
        tell(a.length(), b.length());
        return n;
    }

    private int drawn;

    private int draw(int n) {
        drawn = drawn * 1103515245 + 12345;
        return (int) (Integer.toUnsignedLong(drawn) / 65536 % n);
    }

    int years(int seed, int n) {
        if (n < 1 || n > 40) {
            return -1;
        }
        Model m = copy();
        drawn = seed;
        for (int i = 0; i < n; i++) {
            int act = draw(4);
            if (act < 2) {
                int v = draw(26) + 97;
                m.type(draw(m.size() + 1), v);
            } else if (m.size() > 0) {
                int p = draw(m.size());
                if (act == 2) {
                    m.takes(p, 1);
                } else {
                    m.lays(p, 1, 0);
                }
            }
        }
        tell(hash(m.book()), m.pieces(m.now).size(), m.stores[1].length());
        return m.size();
    }

    // ---- kept

    boolean keep(int i) {
        if (i < 0 || i > 2) {
            return false;
        }
        kept[i] = now.copy();
        return true;
    }

    boolean again(int i) {
        if (i < 0 || i > 2 || kept[i] == null) {
            return false;
        }
        now = kept[i].copy();
        past.clear();
        future.clear();
        typed = -9;
        return true;
    }

    int count(int what) {
        switch (what) {
            case 0:
                return size();
            case 1:
                return lines().length;
            case 2:
                return pieces(now).size();
            case 3:
                return stores[1].length();
            case 4:
                return past.size();
            case 5:
                return future.size();
            case 6:
                int bits = 0;
                for (int i = 0; i < 8; i++) {
                    bits |= now.marks[i] >= 0 ? 1 << i : 0;
                }
                return bits;
            case 7:
                return row.length;
            case 8:
                return text.length();
            default:
                return -100;
        }
    }
}
