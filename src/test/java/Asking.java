import java.util.NoSuchElementException;

/** What the tests share: asking and counting, making books, telling what they show. */
abstract class Asking {
    private static int asked;
    private static int wrong;
    private static String about = "";

    interface Asked {
        long of();
    }

    interface Call {
        long of(PieceBook x);
    }

    interface Maker {
        PieceBook make();
    }

    // ---- asking

    static void about(String what) {
        about = what;
    }

    static void due(long got, long want) {
        asked++;
        if (got != want) {
            tellWrong("answered " + got + ", due is " + want);
        }
    }

    static void due(String got, String want) {
        asked++;
        if (!got.equals(want)) {
            tellWrong("answered " + got + ", due is " + want);
        }
    }

    static void due(boolean got, boolean want) {
        due(Boolean.toString(got), Boolean.toString(want));
    }

    static void dueNoSuchElement(Asked call) {
        asked++;
        long got;
        try {
            got = call.of();
        } catch (NoSuchElementException e) {
            return;
        }
        tellWrong("answered " + got + ", due is NoSuchElementException");
    }

    static void tellWrong(String what) {
        wrong++;
        System.out.println(about + lineOfTest() + ": " + what);
    }

    private static String lineOfTest() {
        for (StackTraceElement e : new Throwable().getStackTrace()) {
            if (!e.getClassName().equals("Asking")) {
                return ", line " + e.getLineNumber();
            }
        }
        return "";
    }

    static void finish(String name) {
        System.out.println(name + ": " + asked + " answers, " + wrong + " wrong");
        if (wrong > 0) {
            System.exit(1);
        }
    }

    static long bit(boolean b) {
        return b ? 1 : 0;
    }

    // ---- making books

    static PieceBook text(PieceBook x, String s) {
        x.end(0);
        for (int i = 0; i < s.length(); i += 4) {
            int v = 0;
            for (int k = i; k < i + 4; k++) {
                v = v << 8 | (k < s.length() ? s.charAt(k) : 0);
            }
            x.sign(v);
        }
        x.end(s.length());
        return x;
    }

    static PieceBook open(String s) {
        return openTimes(s, 1);
    }

    static PieceBook openTimes(String s, int n) {
        PieceBook x = new PieceBook();
        text(x, s).opens(n);
        return x;
    }

    static void put(PieceBook x, int p, String s) {
        text(x, s).inserts(p);
    }

    static void typeAll(PieceBook x, int p, String s) {
        for (int i = 0; i < s.length(); i++) {
            x.type(p + i, s.charAt(i));
        }
    }

    /** A book of 800 lines with the added filled up to so many signs, of which none is shown. */
    static PieceBook filled(int added) {
        PieceBook x = openTimes("\n".repeat(80), 10);
        for (int i = 0; i < 8 && x.count(3) < added; i++) {
            int lines = Math.min(800, added - x.count(3));
            x.indents(0, lines - 1, 1);
            x.undo();
        }
        return x;
    }

    /** A book of 2960 signs a in one piece and its copies. */
    static PieceBook nearlyFull() {
        PieceBook x = openTimes("a".repeat(80), 20);
        x.lays(0, 1360, 0);
        return x;
    }

    /** A book of 3000 signs a. */
    static PieceBook full() {
        PieceBook x = openTimes("a".repeat(80), 20);
        x.lays(0, 1400, 0);
        return x;
    }

    /** A book of 3000 breaks, with 6000 signs added. */
    static PieceBook fullAndSpent() {
        PieceBook x = filled(6000);
        x.lays(0, 800, 0);
        x.lays(0, 1400, 0);
        return x;
    }

    // ---- telling what they show

    static String shown(PieceBook x) {
        StringBuilder b = new StringBuilder();
        for (int p = 0; p < x.count(0); p++) {
            b.append((char) x.at(p));
        }
        return b.toString().replace("\n", "/");
    }

    /** Store, start and length of each piece, as 0.3+2. */
    static String pieces(PieceBook x) {
        StringBuilder b = new StringBuilder();
        for (int i = 0; i < x.count(2); i++) {
            b.append(i == 0 ? "" : " ");
            b.append(x.piece(i, 0)).append('.').append(x.piece(i, 1)).append('+').append(x.piece(i, 2));
        }
        return b.toString();
    }

    static String row(PieceBook x) {
        StringBuilder b = new StringBuilder();
        for (int i = 0; i < x.count(7); i++) {
            b.append(i == 0 ? "" : " ").append(x.row(i));
        }
        return b.toString();
    }

    static String marked(PieceBook x) {
        StringBuilder b = new StringBuilder();
        for (int i = 0; i < 8; i++) {
            if (x.mark(i) >= 0) {
                b.append(b.length() == 0 ? "" : " ").append(i).append('@').append(x.mark(i));
            }
        }
        return b.toString();
    }
}
