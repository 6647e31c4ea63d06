import java.util.NoSuchElementException;
import java.util.Random;

/** Runs of calls drawn by seeds, on PieceBook and on Model side by side: answer, row and state after each call. */
public final class RandomRunsTest {
    private static final String[] CALLS = {
        "opens", "store", "inserts", "type", "takes", "puts", "lays", "moves", "cuts", "indents", "heals",
        "marks", "day", "undo", "redo", "at", "reads", "line", "starts", "place", "longest", "mark", "between",
        "piece", "shows", "from", "lost", "healable", "finds", "last", "many", "fits", "folds", "pair", "nested",
        "before", "word", "words", "rows", "tally", "alike", "sum", "differs", "years", "keep", "again", "count",
        "row", "sign", "end"};
    /** Calls that come more often, as they make the books that the others ask about. */
    private static final String[] OFTEN = {"inserts", "type", "type", "takes", "puts", "lays", "moves", "day", "undo",
        "redo", "marks"};

    private final Random random;
    private final String alphabet;
    private final boolean large;
    private final PieceBook book = new PieceBook();
    private final Model model = new Model();
    private final StringBuilder told = new StringBuilder();
    private int typedAt;
    private int calls;

    private RandomRunsTest(long seed) {
        random = new Random(seed);
        String[] alphabets = {"ab", "ab \n", "()[]{}a", "aAbB0 9\n", "abcdefghij\n kl(MN)[o]{p}0123?#", "(a)(\n"};
        alphabet = alphabets[random.nextInt(alphabets.length)];
        large = seed % 6 == 0;
    }

    public static void main(String[] args) {
        int runs = args.length > 0 ? Integer.parseInt(args[0]) : 600;
        int first = args.length > 1 ? Integer.parseInt(args[1]) : 0;
        int wrong = 0;
        for (int seed = first; seed < first + runs && wrong < 5; seed++) {
            RandomRunsTest run = new RandomRunsTest(seed);
            String fault = run.go();
            if (fault != null) {
                wrong++;
                System.out.println("seed " + seed + ": " + fault + "\n" + run.told);
            }
        }
        System.out.println("RandomRunsTest: " + runs + " runs, " + wrong + " wrong");
        if (wrong > 0) {
            System.exit(1);
        }
    }

    /** Brings a book near its limits: many signs, and much that was added and is shown no more. */
    private String fill() {
        StringBuilder most = new StringBuilder();
        for (int i = 0; i < 80; i++) {
            most.append(random.nextInt(3) == 0 ? '\n' : anySign());
        }
        String fault = sayText(most.toString());
        if (fault == null && book.opens(20) != model.opens(20)) {
            fault = "opens(20)";
        }
        int goal = random.nextInt(3) == 0 ? 0 : 5900 + random.nextInt(101);
        int lines = model.lines().length;
        for (int i = 0; i < 40 && fault == null && model.count(3) < goal; i++) {
            int some = Math.min(lines, Math.min(goal - model.count(3), 1400));
            if (book.indents(0, some - 1, 1) != model.indents(0, some - 1, 1) || book.undo() != model.undo()) {
                fault = "indents(0, " + (some - 1) + ", 1)";
            }
        }
        int room = 1400 - random.nextInt(40);
        if (fault == null && random.nextInt(3) > 0 && book.lays(0, room, 7) != model.lays(0, room, 7)) {
            fault = "lays(0, " + room + ", 7)";
        }
        return fault == null ? compare() : fault;
    }

    private String go() {
        if (large) {
            String fault = fill();
            if (fault != null) {
                return fault;
            }
        }
        while (calls < 500) {
            String call = random.nextInt(3) == 0 ? OFTEN[random.nextInt(OFTEN.length)]
                    : CALLS[random.nextInt(CALLS.length)];
            if (call.equals("opens") && calls > 20 && random.nextInt(10) > 0) {
                continue;
            }
            if ((call.equals("again") || call.equals("end")) && random.nextInt(3) > 0) {
                continue;
            }
            String fault = step(call);
            if (fault != null) {
                return fault;
            }
        }
        return null;
    }

    private String step(String call) {
        if (readsText(call)) {
            String fault = sayText(call.equals("day") ? drawDay() : drawText(call));
            if (fault != null) {
                return fault;
            }
        }
        long[] both = both(call);
        calls++;
        told.append(" = ").append(both[1]).append('\n');
        if (both[0] != both[1]) {
            return call + " answered " + both[0] + ", due is " + both[1];
        }
        return compare();
    }

    private static boolean readsText(String call) {
        return "opens inserts puts day finds last many fits folds".contains(call);
    }

    private String sayText(String text) {
        if (random.nextInt(8) > 0) {
            book.end(0);
            model.end(0);
            calls++;
        }
        for (int i = 0; i < text.length(); i += 4) {
            int v = 0;
            for (int k = 0; k < 4; k++) {
                v = v << 8 | (i + k < text.length() ? text.charAt(i + k) : random.nextInt(256));
            }
            calls++;
            if (book.sign(v) != model.sign(v)) {
                return "sign(" + v + ")";
            }
        }
        book.end(text.length());
        model.end(text.length());
        calls++;
        told.append("text ").append(text.replace("\n", "\\n")).append('\n');
        return null;
    }

    private char anySign() {
        return alphabet.charAt(random.nextInt(alphabet.length()));
    }

    private String drawText(String call) {
        boolean searched = "finds last many fits folds".contains(call);
        int most = searched ? 4 : large ? 80 : 12;
        int n = random.nextInt(most + 1);
        String shown = model.book();
        if (searched && random.nextInt(2) == 0 && !shown.isEmpty()) {
            int p = random.nextInt(shown.length());
            StringBuilder part = new StringBuilder(shown.substring(p, Math.min(shown.length(), p + n)));
            if (part.length() > 0 && random.nextInt(2) == 0) {
                part.setCharAt(random.nextInt(part.length()), "?#A".charAt(random.nextInt(3)));
            }
            return part.toString();
        }
        StringBuilder b = new StringBuilder();
        for (int i = 0; i < n; i++) {
            b.append(random.nextInt(400) == 0 ? (char) (random.nextBoolean() ? 0 : 128 + random.nextInt(128)) : anySign());
        }
        return b.toString();
    }

    private String drawDay() {
        StringBuilder b = new StringBuilder();
        int at = Math.max(0, place());
        while (b.length() < 69 && random.nextInt(7) > 0) {
            int n = Math.min(99, Math.max(0, lengthFrom(at)));
            switch (random.nextInt(8)) {
                case 0:
                case 1:
                case 2:
                    b.append(String.format("i%04d%c", at % 10000, random.nextInt(5) == 0 ? '/' : 'a' + random.nextInt(26)));
                    at++;
                    break;
                case 3:
                    b.append(String.format("d%04d%02d", at % 10000, n));
                    break;
                case 4:
                    b.append(String.format("%c%04d%02d%04d", random.nextBoolean() ? 'l' : 'm', at % 10000, n,
                            random.nextInt(model.size() + 1)));
                    break;
                case 5:
                    b.append('h');
                    break;
                default:
                    b.append(random.nextBoolean() ? 'u' : 'r');
            }
            if (random.nextInt(3) == 0) {
                at = random.nextInt(model.size() + 1);
            }
            at = Math.max(0, at);
        }
        if (random.nextInt(6) == 0 && b.length() > 0) {
            b.setCharAt(random.nextInt(b.length()), "xi0h/Az".charAt(random.nextInt(7)));
        } else if (random.nextInt(10) == 0) {
            b.setLength(random.nextInt(b.length() + 1));
        }
        return b.toString();
    }

    private int small(int bound) {
        return random.nextInt(12) == 0 ? edge() : random.nextInt(Math.max(1, bound + 1));
    }

    private int edge() {
        int[] edges = {-1, -2, 0, 1, Integer.MAX_VALUE, Integer.MIN_VALUE, 3000, 3001, model.size(), model.size() + 1,
            model.size() - 1};
        return edges[random.nextInt(edges.length)];
    }

    private int place() {
        if (random.nextInt(4) == 0) {
            return typedAt + 1;
        }
        return random.nextInt(15) == 0 ? edge() : random.nextInt(model.size() + 1);
    }

    private int lengthFrom(int p) {
        if (random.nextInt(15) == 0) {
            return edge();
        }
        int rest = p < 0 ? 2 : Math.max(0, model.size() - p);
        int most = random.nextInt(large ? 12 : 3) == 0 ? rest : Math.min(rest, 6);
        return random.nextInt(most + 1) + (random.nextInt(20) == 0 ? 1 : 0);
    }

    private int lineNumber() {
        return small(model.lines().length - 1);
    }

    private interface Asked {
        long of();
    }

    private static final long THROWS = Long.MIN_VALUE;

    private static long answer(Asked asked) {
        try {
            return asked.of();
        } catch (NoSuchElementException e) {
            return THROWS;
        }
    }

    private static long due(Integer answer) {
        return answer == null ? THROWS : answer;
    }

    private static long bit(boolean b) {
        return b ? 1 : 0;
    }

    private void tell(String call, int... values) {
        told.append(call);
        for (int v : values) {
            told.append(' ').append(v);
        }
    }

    private long[] both(String call) {
        int p = place();
        int n = lengthFrom(p);
        int q = place();
        int s = small(1);
        int mark = small(7);
        int line = lineNumber();
        tell(call);
        switch (call) {
            case "sign":
                tell("", p);
                return new long[] {book.sign(p), model.sign(p)};
            case "end":
                tell("", mark);
                return new long[] {bit(book.end(mark)), bit(model.end(mark))};
            case "opens":
                int times = small(large ? 20 : 2);
                tell("", times);
                return new long[] {book.opens(times), model.opens(times)};
            case "store":
                int what = small(2);
                tell("", s, what);
                return new long[] {answer(() -> book.store(s, what)), due(model.store(s, what))};
            case "inserts":
                tell("", p);
                return new long[] {book.inserts(p), model.inserts(p)};
            case "type":
                int v = random.nextInt(20) == 0 ? small(128) : anySign();
                tell("", p, v);
                typedAt = p;
                return new long[] {book.type(p, v), model.type(p, v)};
            case "takes":
                tell("", p, n);
                return new long[] {book.takes(p, n), model.takes(p, n)};
            case "puts":
                tell("", p, n);
                return new long[] {book.puts(p, n), model.puts(p, n)};
            case "lays":
                tell("", p, n, q);
                return new long[] {book.lays(p, n, q), model.lays(p, n, q)};
            case "moves":
                int goal = random.nextInt(6) == 0 ? p : random.nextInt(6) == 0 ? p + n : q;
                tell("", p, n, goal);
                return new long[] {book.moves(p, n, goal), model.moves(p, n, goal)};
            case "cuts":
                tell("", line);
                return new long[] {book.cuts(line), model.cuts(line)};
            case "indents":
                int behind = random.nextInt(5) == 0 ? lineNumber() : line + random.nextInt(3);
                int blanks = random.nextInt(10) == 0 ? small(9) : 1 + random.nextInt(3);
                tell("", line, behind, blanks);
                return new long[] {book.indents(line, behind, blanks), model.indents(line, behind, blanks)};
            case "heals":
                return new long[] {book.heals(), model.heals()};
            case "marks":
                int sticks = small(1);
                tell("", mark, p, sticks);
                return new long[] {book.marks(mark, p, sticks), model.marks(mark, p, sticks)};
            case "day":
                return new long[] {book.day(), model.day()};
            case "undo":
                return new long[] {book.undo(), model.undo()};
            case "redo":
                return new long[] {book.redo(), model.redo()};
            case "keep":
                int slot = small(2);
                tell("", slot);
                return new long[] {bit(book.keep(slot)), bit(model.keep(slot))};
            case "again":
                int kept = small(2);
                tell("", kept);
                return new long[] {bit(book.again(kept)), bit(model.again(kept))};
            default:
                return question(call, p, n, q, line);
        }
    }

    private long[] question(String call, int p, int n, int q, int line) {
        int few = small(17);
        int s = small(1);
        int piece = small(model.count(2));
        int what = small(4);
        tell("", p, n, q, line, few, s, piece, what);
        switch (call) {
            case "at":
                return new long[] {book.at(p), model.at(p)};
            case "reads":
                return new long[] {book.reads(p, few), model.reads(p, few)};
            case "line":
                return new long[] {book.line(p), model.line(p)};
            case "starts":
                return new long[] {book.starts(line), model.starts(line)};
            case "place":
                return new long[] {book.place(line, few), model.place(line, few)};
            case "longest":
                return new long[] {book.longest(), model.longest()};
            case "mark":
                return new long[] {book.mark(few), model.mark(few)};
            case "between":
                return new long[] {book.between(p, q), model.between(p, q)};
            case "piece":
                return new long[] {answer(() -> book.piece(piece, what)), due(model.piece(piece, what))};
            case "shows":
                return new long[] {book.shows(p), model.shows(p)};
            case "from":
                int k = small(s == 0 || s == 1 ? model.stores[s].length() : 3);
                tell("", k);
                return new long[] {book.from(s, k), model.from(s, k)};
            case "lost":
                return new long[] {book.lost(s), model.lost(s)};
            case "healable":
                return new long[] {book.healable(), model.healable()};
            case "finds":
                return new long[] {book.finds(p), model.finds(p)};
            case "last":
                return new long[] {book.last(p), model.last(p)};
            case "many":
                return new long[] {book.many(), model.many()};
            case "fits":
                return new long[] {book.fits(p), model.fits(p)};
            case "folds":
                return new long[] {book.folds(p), model.folds(p)};
            default:
                return wider(call, p, n, q, few);
        }
    }

    private long[] wider(String call, int p, int n, int q, int few) {
        int v = random.nextInt(10) == 0 ? small(128) : anySign();
        int seed = random.nextInt();
        tell("", v, seed);
        switch (call) {
            case "pair":
                return new long[] {book.pair(p), model.pair(p)};
            case "nested":
                return new long[] {book.nested(), model.nested()};
            case "before":
                return new long[] {book.before(p), model.before(p)};
            case "word":
                return new long[] {book.word(p), model.word(p)};
            case "words":
                return new long[] {book.words(), model.words()};
            case "rows":
                int w = random.nextInt(10) == 0 ? small(81) : few;
                tell("", w);
                return new long[] {book.rows(w), model.rows(w)};
            case "tally":
                return new long[] {book.tally(v), model.tally(v)};
            case "alike":
                return new long[] {book.alike(p, q), model.alike(p, q)};
            case "sum":
                return new long[] {book.sum(p, n), model.sum(p, n)};
            case "differs":
                int k = small(model.past.size());
                tell("", k);
                return new long[] {book.differs(k), model.differs(k)};
            case "years":
                int times = random.nextInt(10) == 0 ? small(41) : 1 + random.nextInt(40);
                tell("", times);
                return new long[] {book.years(seed, times), model.years(seed, times)};
            case "count":
                return new long[] {book.count(few), model.count(few)};
            default:
                long due = few >= 0 && few < model.row.length ? model.row[few] : THROWS;
                return new long[] {answer(() -> book.row(few)), due};
        }
    }

    /** The whole state that can be asked for without touching it. */
    private String compare() {
        for (int what = 0; what < 9; what++) {
            if (book.count(what) != model.count(what)) {
                return "count(" + what + ") is " + book.count(what) + ", due is " + model.count(what);
            }
        }
        for (int i = 0; i < model.row.length; i++) {
            if (book.row(i) != model.row[i]) {
                return "row(" + i + ") is " + book.row(i) + ", due is " + model.row[i];
            }
        }
        for (int i = 0; i < 8; i++) {
            if (book.mark(i) != model.mark(i)) {
                return "mark(" + i + ") is " + book.mark(i) + ", due is " + model.mark(i);
            }
        }
        String shown = model.book();
        int begin = 0;
        int index = 0;
        for (java.util.List<Model.Cell> piece : model.pieces(model.now)) {
            int[] due = {piece.get(0).store, piece.get(0).index, piece.size()};
            for (int what = 0; what < 3; what++) {
                if (book.piece(index, what) != due[what]) {
                    return "piece(" + index + ", " + what + ") is " + book.piece(index, what) + ", due is " + due[what];
                }
            }
            for (int k = 0; k < piece.size(); k++) {
                if (book.at(begin + k) != shown.charAt(begin + k)) {
                    return "at(" + (begin + k) + ") is " + book.at(begin + k);
                }
            }
            begin += piece.size();
            index++;
        }
        return null;
    }
}
