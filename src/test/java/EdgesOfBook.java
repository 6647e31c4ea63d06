/** Boundaries that promises 37 to 45 name: what the book says. */
final class EdgesOfBook extends Asking {
    private static final int MOST = Integer.MAX_VALUE;
    private static final int LEAST = Integer.MIN_VALUE;
    private static final int[] NO_SIGNS = {24, 25, MOST, -1, LEAST};
    private static final int[] NO_PLACES = {25, 26, MOST, -1, LEAST};

    private EdgesOfBook() {
    }

    static void tell(Edges edges) {
        pair(edges);
        nested(edges);
        before(edges);
        word(edges);
        words(edges);
        rows(edges);
        rowsRefused(edges);
        tally(edges);
        alike(edges);
        sum(edges);
    }

    private static void pair(Edges edges) {
        edges.ofPromise(37);
        edges.edge("The bracket to that at p (one of ( ) [ ] { }, each with its own kind; others aside): its place, "
            + "counting those of its kind, from p on, or back: it;", () -> {
            PieceBook x = open("([{)]}");
            int[] due = {3, 4, 5, 0, 1, 2};
            for (int p = 0; p < 6; p++) {
                due(x.pair(p), due[p]);
                due(row(x), "0");
            }
            PieceBook y = open("(()())");
            int[] inOne = {5, 2, 1, 4, 3, 0};
            for (int p = 0; p < 6; p++) {
                due(y.pair(p), inOne[p]);
            }
        });
        edges.edge("the ROW: how many of its kind lie between, at the deepest, in one another.", () -> {
            String[] books = {"()", "(())", "(()())", "((())())", "([[]])", "(a)"};
            int[] due = {0, 1, 1, 2, 0, 0};
            for (int i = 0; i < books.length; i++) {
                PieceBook x = open(books[i]);
                int end = books[i].length() - 1;
                due(x.pair(0), end);
                due(row(x), Integer.toString(due[i]));
                due(x.pair(end), 0);
                due(row(x), Integer.toString(due[i]));
            }
        });
        edges.edge("-2: there is none;", () -> {
            for (String book : new String[] {"(", ")", "((a)", ")(", "(]", "[}", "{)"}) {
                due(open(book).pair(0), -2);
            }
            due(open("(a))").pair(3), -2);
            due(open(")(").pair(1), -2);
        });
        edges.edge("-3: SIGN p is no bracket;", () -> {
            // The signs next to brackets, too.
            for (char v : new char[] {'\'', '*', 'Z', '\\', '^', 'z', '|', '~', '<', '>', '\n', 1, 127}) {
                due(open("(" + v + ")").pair(1), -3);
            }
        });
        edges.edge("NONE: no such SIGN.", () -> {
            for (int p : NO_SIGNS) {
                Learnt.dueNoTrace(x -> x.pair(p), -1);
            }
            due(new PieceBook().pair(0), -1);
        });
    }

    private static void nested(Edges edges) {
        edges.ofPromise(38);
        edges.edge("Brackets (of all three kinds) from the first one on: the first place of one that closes another "
            + "kind than the latest open one is of, or closes while none is open;", () -> {
            String[] books = {"(]", "([)]", "a{(b}", ")", "())", "[](){}}("};
            int[] places = {1, 2, 4, 0, 2, 6};
            for (int i = 0; i < books.length; i++) {
                due(open(books[i]).nested(), places[i]);
            }
        });
        edges.edge("if there is none such, the first open one that is never closed: the place;", () -> {
            String[] books = {"(", "()[", "([]", "{{}", "(([])", "a(b"};
            int[] places = {0, 2, 0, 0, 0, 1};
            for (int i = 0; i < books.length; i++) {
                due(open(books[i]).nested(), places[i]);
            }
            // One that closes wrongly is told ahead of one that is never closed.
            due(open("((]").nested(), 2);
        });
        edges.edge("the ROW: how many are open at once, at the most, up to there (of the latter: in all).", () -> {
            String[] books = {"(]((", "())(((", ")", "(([]))}", "(", "()[", "({}[()]", "(a)((b)"};
            String[] due = {"1", "1", "0", "3", "1", "1", "3", "2"};
            for (int i = 0; i < books.length; i++) {
                PieceBook x = open(books[i]);
                x.nested();
                due(row(x), due[i]);
            }
            PieceBook most = openTimes("(".repeat(80), 20);
            most.lays(0, 1400, 0);
            due(most.nested(), 0);
            due(row(most), "3000");
        });
        edges.edge("-2: all are nested.", () -> {
            for (String book : new String[] {"", "ab\n", "()", "([{}])", "()[]{}", "a(b[c]d)"}) {
                PieceBook x = open(book);
                x.healable();
                String row = row(x);
                due(x.nested(), -2);
                due(row(x), row);
            }
        });
    }

    private static void before(Edges edges) {
        edges.ofPromise(39);
        edges.edge("The most SIGNS from p on that stand, as they are, at a place ahead of p, too (they may lie over "
            + "one another): how many;", () -> {
            due(open("aaaa").before(1), 3);
            due(open("aaaa").before(3), 1);
            due(open("aaaa").before(0), 0);
            due(open("ababab").before(2), 4);
            due(open("abcabd").before(3), 2);
            due(open("abAB").before(2), 0);
            // Nothing behind p counts, though more stands there.
            due(open("abxabcabc").before(3), 2);
            due(full().before(1), 2999);
            due(full().before(2999), 1);
            // Each book of nine signs a and b, at each place: so what is alike in itself comes in all its ways.
            for (int signs = 0; signs < 512; signs++) {
                StringBuilder b = new StringBuilder();
                for (int i = 0; i < 9; i++) {
                    b.append((signs >> i & 1) == 0 ? 'a' : 'b');
                }
                PieceBook x = open(b.toString());
                for (int p = 0; p < 9; p++) {
                    String which = b + " at " + p + ", ";
                    due(which + x.before(p) + ": " + row(x), which + beforeByHand(b.toString(), p));
                }
            }
        });
        edges.edge("the ROW: the first such place (nothing for 0).", () -> {
            PieceBook x = open("abcabcabd");
            due(x.before(3) + ": " + row(x), "5: 0");
            due(x.before(6) + ": " + row(x), "2: 0");
            due(x.before(4) + ": " + row(x), "4: 1");
            PieceBook one = open("aab");
            due(one.before(1) + ": " + row(one), "1: 0");
            due(x.before(8) + ": " + row(x), "0: ");
            due(x.before(0) + ": " + row(x), "0: ");
            PieceBook later = open("axabyab");
            due(later.before(5) + ": " + row(later), "2: 2");
            PieceBook most = full();
            due(most.before(2000) + ": " + row(most), "1000: 0");
        });
        edges.edge("NONE: no such SIGN.", () -> {
            for (int p : NO_SIGNS) {
                Learnt.dueNoTrace(x -> x.before(p), -1);
            }
            due(new PieceBook().before(0), -1);
        });
    }

    private static String beforeByHand(String book, int p) {
        for (int n = book.length() - p; n > 0; n--) {
            int q = book.indexOf(book.substring(p, p + n));
            if (q < p) {
                return n + ": " + q;
            }
        }
        return "0: ";
    }

    private static void word(Edges edges) {
        edges.ofPromise(40);
        edges.edge("A WORD is as many letters and digits (a .. z, A "
            + ".. Z, 0 .. 9) one behind the other as there are.", () -> {
            PieceBook all = open("azAZ09");
            for (int p = 0; p <= 6; p++) {
                due(all.word(p) + ": " + row(all), "0: 6");
            }
            PieceBook none = open("/:@[`{\n_" + (char) 1 + (char) 127);
            for (int p = 0; p <= 10; p++) {
                due(none.word(p), -2);
            }
        });
        edges.edge("That at place p (one that has SIGN p, or, if none does, SIGN p - 1): where it begins: the place; "
            + "the ROW: where it ends (behind its last SIGN).", () -> {
            PieceBook x = open("ab cd");
            String[] due = {"0: 2", "0: 2", "0: 2", "3: 5", "3: 5", "3: 5"};
            for (int p = 0; p <= 5; p++) {
                due(x.word(p) + ": " + row(x), due[p]);
            }
        });
        edges.edge("-2: there is none;", () -> {
            PieceBook x = open(" a  b-");
            int[] due = {-2, 1, 1, -2, 4, 4, -2};
            for (int p = 0; p <= 6; p++) {
                due(x.word(p), due[p]);
            }
            due(new PieceBook().word(0), -2);
        });
        edges.edge("NONE: no such place.", () -> {
            for (int p : NO_PLACES) {
                Learnt.dueNoTrace(x -> x.word(p), -1);
            }
            due(new PieceBook().word(1), -1);
        });
    }

    private static void words(Edges edges) {
        edges.ofPromise(41);
        edges.edge("How many WORDS there are: how many; the ROW: the longest one's length, the place where it begins "
            + "(of as long ones the first; nothing without).", () -> {
            String[] books = {"", " -\n", "a", " ab", "ab cd", "a bc de\nf", "a\nb", "a,b,", "abc"};
            String[] due = {"0: ", "0: ", "1: 1 0", "1: 2 1", "2: 2 0", "4: 2 2", "2: 1 0", "2: 1 0", "1: 3 0"};
            for (int i = 0; i < books.length; i++) {
                PieceBook x = open(books[i]);
                x.longest();
                due(x.words() + ": " + row(x), due[i]);
            }
            PieceBook most = full();
            due(most.words() + ": " + row(most), "1: 3000 0");
        });
    }

    private static String rowsOf(String book, int w) {
        PieceBook x = open(book);
        return x.rows(w) + ": " + row(x);
    }

    private static void rows(Edges edges) {
        edges.ofPromise(42);
        edges.edge("How many rows THE BOOK takes, if none may have more than w (1 .. 80) SIGNS (BREAKS aside): each "
            + "LINE begins a row;", () -> {
            due(rowsOf("ab\ncd", 2), "2: 2");
            due(rowsOf("\n", 1), "2: 0");
            due(rowsOf("a\n", 1), "2: 1");
            due(rowsOf("", 1), "1: 0");
            due(rowsOf("abc", 1), "3: 1");
            due(rowsOf("a".repeat(80), 80), "1: 80");
            due(rowsOf("a".repeat(80), 79), "2: 79");
            PieceBook most = full();
            due(most.rows(1) + ": " + row(most), "3000: 1");
            due(most.rows(80) + ": " + row(most), "38: 80");
        });
        edges.edge("in a LINE that goes on for more than w SIGNS from where a row begins, the row ends behind the "
            + "last blank (32) among these first w,", () -> {
            due(rowsOf("ab cd ef", 6), "2: 6");
            due(rowsOf("ab cd ef", 7), "2: 6");
            due(rowsOf("ab cd ef", 5), "2: 5");
            due(rowsOf("ab  cde", 3), "3: 3");
            due(rowsOf("abc de", 4), "2: 4");
            due(rowsOf(" abcd", 4), "2: 4");
            due(rowsOf("     ", 2), "3: 2");
            due(rowsOf("a\tbc", 3), "2: 3");
        });
        edges.edge("or, if there is none, behind w; else it ends with the LINE: how many; the ROW: how many SIGNS "
            + "the longest row has.", () -> {
            due(rowsOf("abcdef", 4), "2: 4");
            due(rowsOf("abcdef", 6), "1: 6");
            due(rowsOf("abcdef", 3), "2: 3");
            due(rowsOf("abcd ef", 4), "2: 4");
            // A blank at the end of the row ahead is none among these.
            due(rowsOf("ab cdefgh", 4), "3: 4");
            due(rowsOf("ab cd\nabcdefg", 5), "3: 5");
            due(rowsOf("ab cd \nx", 6), "2: 6");
            due(rowsOf("a b\nccc d", 3), "3: 3");
        });
    }

    private static void rowsRefused(Edges edges) {
        edges.edge("NONE: another w.", () -> {
            for (int w : new int[] {0, -1, 81, MOST, LEAST}) {
                Learnt.dueNoTrace(x -> x.rows(w), -1);
            }
            due(new PieceBook().rows(0), -1);
        });
    }

    private static void tally(Edges edges) {
        edges.ofPromise(43);
        edges.edge("How many SIGNS v there are: how many; the "
            + "ROW: the first place, the last one (nothing without).", () -> {
            PieceBook x = open("\nab" + (char) 1 + "a" + (char) 127);
            due(x.tally('a') + ": " + row(x), "2: 1 4");
            due(x.tally('b') + ": " + row(x), "1: 2 2");
            due(x.tally('A') + ": " + row(x), "0: ");
            due(x.tally(10) + ": " + row(x), "1: 0 0");
            due(x.tally(1) + ": " + row(x), "1: 3 3");
            due(x.tally(127) + ": " + row(x), "1: 5 5");
            PieceBook most = full();
            due(most.tally('a') + ": " + row(most), "3000: 0 2999");
            due(new PieceBook().tally('a'), 0);
        });
        edges.edge("NONE: v is none.", () -> {
            for (int v : new int[] {0, -1, 128, 256 + 'a', MOST, LEAST}) {
                Learnt.dueNoTrace(x -> x.tally(v), -1);
            }
        });
    }

    private static void alike(Edges edges) {
        edges.ofPromise(44);
        edges.edge("How many SIGNS from p on are as those from q on, one by one, till they differ, or THE BOOK ends: "
            + "how many;", () -> {
            PieceBook x = open("abxabyab");
            due(x.alike(0, 3), 2);
            due(x.alike(3, 6), 2);
            due(x.alike(6, 3), 2);
            due(x.alike(0, 1), 0);
            due(x.alike(1, 1), 7);
            due(x.alike(8, 8), 0);
            due(x.alike(8, 0), 0);
            due(open("aaaa").alike(0, 1), 3);
            due(full().alike(0, 0), 3000);
            due(new PieceBook().alike(0, 0), 0);
        });
        edges.edge("the ROW: what SIGN comes behind these from p, from q (0: THE BOOK ends).", () -> {
            PieceBook x = open("abxabyab");
            int[][] places = {{0, 3}, {3, 6}, {6, 0}, {1, 1}, {8, 8}, {8, 0}, {0, 8}};
            String[] due = {"120 121", "121 0", "0 120", "0 0", "0 0", "0 97", "97 0"};
            for (int i = 0; i < places.length; i++) {
                x.alike(places[i][0], places[i][1]);
                due(row(x), due[i]);
            }
        });
        edges.edge("NONE: no such place.", () -> {
            for (int p : NO_PLACES) {
                Learnt.dueNoTrace(x -> x.alike(p, 0), -1);
                Learnt.dueNoTrace(x -> x.alike(0, p), -1);
                Learnt.dueNoTrace(x -> x.alike(p, p), -1);
            }
            due(Learnt.typed().alike(24, 24), 0);
        });
    }

    private static void sum(Edges edges) {
        edges.ofPromise(45);
        edges.edge("A sum of n SIGNS from p on (n 0 or more): at first 7;", () -> {
            PieceBook x = open("ab");
            for (int p = 0; p <= 2; p++) {
                due(x.sum(p, 0) + ": " + row(x), "0: 7");
            }
            due(x.sum(1, 1) + ": " + row(x), "0: " + (7 * 31 + 98));
            due(x.sum(0, 2) + ": " + row(x), "0: " + ((7 * 31 + 97) * 31 + 98));
            PieceBook empty = new PieceBook();
            due(empty.sum(0, 0) + ": " + row(empty), "0: 7");
        });
        edges.edge("by each: 31 times it, and the SIGN (as ints): 0; the ROW: it.", () -> {
            // 7, and six signs of 127, are above 2^31, and stay below 2^32; told by longs.
            PieceBook x = open(("" + (char) 127).repeat(6) + "abc");
            long sum = 7;
            for (int i = 0; i < 6; i++) {
                sum = sum * 31 + 127;
            }
            due(bit(sum > Integer.MAX_VALUE), 1);
            due(x.sum(0, 6), 0);
            due(x.row(0), (int) sum);
            for (char c : "abc".toCharArray()) {
                sum = sum * 31 + c;
            }
            due(x.sum(0, 9), 0);
            due(x.row(0), (int) sum);
            due(x.count(7), 1);
            PieceBook most = full();
            int all = 7;
            for (int i = 0; i < 3000; i++) {
                all = all * 31 + 'a';
            }
            due(most.sum(0, 3000), 0);
            due(most.row(0), all);
        });
        edges.edge("-2: there are not so many;", () -> {
            int[][] none = {{0, 25}, {24, 1}, {23, 2}, {25, 0}, {1, MOST}, {MOST, 0}, {MOST, 1}, {MOST, MOST}};
            for (int[] pn : none) {
                Learnt.dueNoTrace(x -> x.sum(pn[0], pn[1]), -2);
            }
            due(Learnt.typed().sum(0, 24), 0);
            due(new PieceBook().sum(0, 1), -2);
        });
        edges.edge("NONE: n, p below 0.", () -> {
            int[][] none = {{0, -1}, {-1, 0}, {-1, 99}, {99, -1}, {LEAST, 0}, {0, LEAST}, {LEAST, LEAST},
                {LEAST, MOST}, {MOST, LEAST}};
            for (int[] pn : none) {
                Learnt.dueNoTrace(x -> x.sum(pn[0], pn[1]), -1);
            }
        });
    }
}
