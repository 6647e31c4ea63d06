/** Boundaries that promises 19 to 31 name: signs, lines, places; pieces. */
final class EdgesOfPlaces extends Asking {
    private static final int MOST = Integer.MAX_VALUE;
    private static final int LEAST = Integer.MIN_VALUE;

    private EdgesOfPlaces() {
    }

    static void tell(Edges edges) {
        signs(edges);
        lines(edges);
        longest(edges);
        marks(edges);
        piece(edges);
        from(edges);
        lost(edges);
        healable(edges);
    }

    private static void signs(Edges edges) {
        edges.ofPromise(19);
        edges.edge("SIGN at p. NONE: none such.", () -> {
            PieceBook x = open("ab");
            due(x.at(0), 'a');
            due(x.at(1), 'b');
            for (int p : new int[] {2, 3, MOST, -1, LEAST}) {
                due(x.at(p), -1);
            }
            due(new PieceBook().at(0), -1);
            due(full().at(2999), 'a');
            due(full().at(3000), -1);
        });
        edges.ofPromise(20);
        edges.edge("SIGNS from p on, n (1 .. 16) of them, "
            + "or fewer, if THE BOOK ends: how many; the ROW: they.", () -> {
            PieceBook x = open("abcdefghijklmnopq");
            due(x.reads(0, 1), 1);
            due(row(x), "97");
            due(x.reads(0, 16), 16);
            due(x.count(7), 16);
            due(x.row(15), 'p');
            due(x.reads(1, 16), 16);
            due(x.row(15), 'q');
            due(x.reads(2, 16), 15);
            due(x.count(7), 15);
            due(x.reads(16, 2), 1);
            due(row(x), "113");
            due(x.reads(17, 16), 0);
            due(x.count(7), 0);
            due(new PieceBook().reads(0, 16), 0);
        });
        edges.edge("NONE: no such place, another n.", () -> {
            for (int p : new int[] {25, MOST, -1, LEAST}) {
                Learnt.dueNoTrace(x -> x.reads(p, 1), -1);
            }
            for (int n : new int[] {0, -1, 17, MOST, LEAST}) {
                Learnt.dueNoTrace(x -> x.reads(0, n), -1);
            }
        });
    }

    private static void lines(Edges edges) {
        edges.ofPromise(21);
        edges.edge("The LINE of a place: it; the ROW: how many SIGNS of it are ahead of the place. NONE: no such "
            + "place.", () -> {
            PieceBook x = open("ab\n\n");
            int[] lines = {0, 0, 0, 1, 2};
            int[] ahead = {0, 1, 2, 0, 0};
            for (int p = 0; p <= 4; p++) {
                due(x.line(p), lines[p]);
                due(row(x), Integer.toString(ahead[p]));
            }
            PieceBook breakFirst = open("\na");
            due(breakFirst.line(0) + ": " + row(breakFirst), "0: 0");
            due(breakFirst.line(1) + ": " + row(breakFirst), "1: 0");
            due(new PieceBook().line(0), 0);
            due(fullAndSpent().line(3000), 3000);
            for (int p : new int[] {25, MOST, -1, LEAST}) {
                Learnt.dueNoTrace(y -> y.line(p), -1);
            }
        });
        edges.ofPromise(22);
        edges.edge("The place where a LINE begins: it; the ROW: how many SIGNS it has, without its BREAK. NONE: none "
            + "such.", () -> {
            PieceBook x = open("\nab\n");
            due(x.starts(0), 0);
            due(row(x), "0");
            due(x.starts(1), 1);
            due(row(x), "2");
            due(x.starts(2), 4);
            due(row(x), "0");
            due(new PieceBook().starts(0), 0);
            due(fullAndSpent().starts(3000), 3000);
            due(fullAndSpent().starts(3001), -1);
            for (int line : new int[] {4, MOST, -1, LEAST}) {
                Learnt.dueNoTrace(y -> y.starts(line), -1);
            }
        });
        edges.ofPromise(23);
        edges.edge("The place in a LINE behind so many of its SIGNS (at most all but its BREAK): it; the ROW: how "
            + "many these are.", () -> {
            PieceBook x = open("ab\n\ncd");
            int[][] due = {{0, 0, 0, 0}, {0, 1, 1, 1}, {0, 2, 2, 2}, {0, 3, 2, 2}, {0, MOST, 2, 2}, {1, 0, 3, 0},
                {1, 1, 3, 0}, {2, 1, 5, 1}, {2, 2, 6, 2}, {2, 3, 6, 2}, {2, MOST, 6, 2}};
            for (int[] d : due) {
                due(x.place(d[0], d[1]), d[2]);
                due(row(x), Integer.toString(d[3]));
            }
            due(new PieceBook().place(0, 5), 0);
        });
        edges.edge("NONE: no such LINE, many below 0.", () -> {
            for (int line : new int[] {4, MOST, -1, LEAST}) {
                Learnt.dueNoTrace(x -> x.place(line, 0), -1);
            }
            for (int many : new int[] {-1, LEAST}) {
                Learnt.dueNoTrace(x -> x.place(0, many), -1);
            }
        });
    }

    private static void longest(Edges edges) {
        edges.ofPromise(24);
        edges.edge("The longest LINE (without its BREAK; of as long ones the first): it;", () -> {
            due(open("ab\ncd\nef").longest(), 0);
            due(open("a\ncd\nef").longest(), 1);
            // With its break the first would be as long.
            due(open("a\ncd").longest(), 1);
            due(open("\n\n").longest(), 0);
            due(new PieceBook().longest(), 0);
            due(full().longest(), 0);
        });
        edges.edge("the ROW: how many SIGNS it has, how many LINES have none.", () -> {
            String[] books = {"", "a", "\n", "a\n", "\n\nab\n\n"};
            String[] due = {"0 1", "1 0", "0 2", "1 1", "2 4"};
            for (int i = 0; i < books.length; i++) {
                PieceBook x = open(books[i]);
                x.longest();
                due(row(x), due[i]);
            }
            PieceBook breaks = fullAndSpent();
            breaks.longest();
            due(row(breaks), "0 3001");
        });
    }

    private static void marks(Edges edges) {
        edges.ofPromise(25);
        edges.edge("Place of MARK i: it. -2: it is unset;", () -> {
            PieceBook x = open("ab");
            due(x.mark(0), -2);
            due(x.mark(7), -2);
            x.marks(7, 0, 0);
            due(x.mark(7), 0);
            x.marks(7, -1, 0);
            due(x.mark(7), -2);
        });
        edges.edge("NONE: another i.", () -> {
            for (int i : new int[] {8, 9, MOST, -1, LEAST}) {
                Learnt.dueNoTrace(x -> x.mark(i), -1);
            }
        });
        edges.ofPromise(26);
        edges.edge("MARKS between two places (p .. q, both, too; bits): them; the ROW: how many.", () -> {
            PieceBook x = open("abcd");
            x.marks(0, 0, 0);
            x.marks(1, 1, 0);
            x.marks(2, 2, 0);
            x.marks(6, 2, 0);
            x.marks(7, 4, 0);
            int[][] due = {{1, 2, 70, 3}, {2, 4, 196, 3}, {0, 0, 1, 1}, {3, 3, 0, 0}, {4, 4, 128, 1}, {-1, -1, 0, 0},
                {LEAST, -1, 0, 0}, {LEAST, MOST, 199, 5}, {5, MOST, 0, 0}, {MOST, MOST, 0, 0}, {-5, 0, 1, 1}};
            for (int[] d : due) {
                due(x.between(d[0], d[1]), d[2]);
                due(row(x), Integer.toString(d[3]));
            }
            due(new PieceBook().between(-1, 0), 0);
        });
        edges.edge("NONE: q is less than p.", () -> {
            int[][] none = {{1, 0}, {0, -1}, {-1, -2}, {MOST, LEAST}, {MOST, MOST - 1}, {LEAST + 1, LEAST}};
            for (int[] pq : none) {
                Learnt.dueNoTrace(x -> x.between(pq[0], pq[1]), -1);
            }
        });
    }

    private static void piece(Edges edges) {
        edges.ofPromise(27);
        edges.edge("Of PIECE i, what 0: STORE, 1: START, 2: LENGTH, 3: BREAKS that it shows, 4: the place in THE "
            + "BOOK where it begins.", () -> {
            PieceBook x = open("a\nb\nc");
            put(x, 4, "x\n\n");
            x.takes(4, 1);
            String[] due = {"0 0 4 2 0", "1 1 2 2 4", "0 4 1 0 6"};
            for (int i = 0; i < 3; i++) {
                StringBuilder b = new StringBuilder();
                for (int what = 0; what < 5; what++) {
                    b.append(what == 0 ? "" : " ").append(x.piece(i, what));
                }
                due(b.toString(), due[i]);
            }
            // A break that stands in the store right behind a piece is not of it.
            PieceBook y = open("a\nb");
            y.takes(1, 1);
            due(y.piece(0, 3), 0);
            due(y.piece(1, 3), 0);
            put(y, 0, "c\n");
            y.takes(1, 1);
            due(y.piece(0, 3), 0);
        });
        edges.edge("NoSuchElementException: none such, another what.", () -> {
            PieceBook x = Learnt.typed();
            int pieces = x.count(2);
            due(x.piece(pieces - 1, 4), 23);
            for (int i : new int[] {pieces, pieces + 1, MOST, -1, LEAST}) {
                dueNoSuchElement(() -> x.piece(i, 0));
                dueNoSuchElement(() -> x.piece(i, 4));
            }
            for (int what : new int[] {-1, 5, 6, MOST, LEAST}) {
                dueNoSuchElement(() -> x.piece(0, what));
            }
            dueNoSuchElement(() -> new PieceBook().piece(0, 0));
            due(Learnt.look(x), Learnt.look(Learnt.typed()));
        });
        edges.ofPromise(28);
        edges.edge("The PIECE that shows SIGN p: it; the ROW: which of its SIGNS that is (from 0 on), of which "
            + "STORE, which of that one's. NONE: no such SIGN.", () -> {
            PieceBook x = open("abcd");
            put(x, 2, "xy");
            String[] due = {"0: 0 0 0", "0: 1 0 1", "1: 0 1 0", "1: 1 1 1", "2: 0 0 2", "2: 1 0 3"};
            for (int p = 0; p < 6; p++) {
                due(x.shows(p) + ": " + row(x), due[p]);
            }
            for (int p : new int[] {6, 7, MOST, -1, LEAST}) {
                due(x.shows(p), -1);
                due(row(x), "1 0 3");
            }
            due(new PieceBook().shows(0), -1);
            PieceBook most = full();
            due(most.shows(2999), 1);
            due(row(most), "1599 0 1599");
        });
    }

    private static void from(Edges edges) {
        edges.ofPromise(29);
        edges.edge("How many PIECES show SIGN k of STORE s: how many; the ROW: the places where it is shown, the "
            + "first 12 alone.", () -> {
            PieceBook x = open("ab");
            for (int shown = 1; shown <= 14; shown++) {
                due(x.from(0, 1), shown);
                due(x.count(7), Math.min(shown, 12));
                due(x.row(0), 1);
                due(x.row(Math.min(shown, 12) - 1), Math.min(shown, 12));
                x.lays(1, 1, 1);
            }
            x.takes(0, 1);
            due(x.from(0, 0), 0);
            due(x.count(7), 0);
            due(x.from(0, 1), 15);
            due(row(x), "0 1 2 3 4 5 6 7 8 9 10 11");
        });
        edges.edge("NONE: no such SIGN.", () -> {
            PieceBook x = open("ab");
            put(x, 0, "xyz");
            x.from(1, 2);
            int[][] none = {{0, 2}, {0, -1}, {0, MOST}, {0, LEAST}, {1, 3}, {1, -1}, {1, MOST}, {1, LEAST}, {2, 0},
                {-1, 0}, {MOST, 0}, {LEAST, 0}};
            for (int[] sk : none) {
                due(x.from(sk[0], sk[1]), -1);
                due(row(x), "2");
            }
            due(x.from(0, 1), 1);
            due(x.from(1, 2), 1);
            due(new PieceBook().from(0, 0), -1);
            due(new PieceBook().from(1, 0), -1);
            // The last sign of a full original and the first one added are not the same, nor those behind.
            PieceBook whole = openTimes("a".repeat(80), 20);
            due(whole.from(0, 1599), 1);
            due(whole.from(0, 1600), -1);
            due(whole.from(1, 0), -1);
            put(whole, 0, "b");
            due(whole.from(0, 1600), -1);
            due(whole.from(1, 0), 1);
            due(row(whole), "0");
        });
    }

    private static void lost(Edges edges) {
        edges.ofPromise(30);
        edges.edge("SIGNS of STORE s that no PIECE shows: how many; the ROW: the place in the STORE of the first one "
            + "of them (nothing without).", () -> {
            PieceBook x = open("abc");
            x.longest();
            due(x.lost(0), 0);
            due(x.count(7), 0);
            due(x.lost(1), 0);
            due(x.count(7), 0);
            x.takes(2, 1);
            due(x.lost(0), 1);
            due(row(x), "2");
            x.takes(0, 1);
            due(x.lost(0), 2);
            due(row(x), "0");
            x.takes(0, 1);
            due(x.lost(0), 3);
            due(row(x), "0");
            due(filled(6000).lost(1), 6000);
            // Shown twice, and once taken, a sign is still shown.
            PieceBook twice = open("ab");
            twice.lays(0, 2, 2);
            twice.takes(0, 2);
            due(twice.lost(0), 0);
            PieceBook whole = openTimes("a".repeat(80), 20);
            whole.takes(1599, 1);
            due(whole.lost(0), 1);
            due(row(whole), "1599");
        });
        edges.edge("NONE: another s.", () -> {
            for (int s : new int[] {2, 3, MOST, -1, LEAST}) {
                Learnt.dueNoTrace(x -> x.lost(s), -1);
            }
        });
    }

    private static void healable(Edges edges) {
        edges.ofPromise(31);
        edges.edge("How many borders between two PIECES could be healed (as heals()): how many; the ROW: the longest "
            + "PIECE (of as long ones the first; nothing without).", () -> {
            PieceBook x = new PieceBook();
            x.longest();
            due(x.healable(), 0);
            due(x.count(7), 0);
            PieceBook y = open("abcdef");
            due(y.healable(), 0);
            due(row(y), "0");
            y.moves(2, 2, 2);
            due(pieces(y), "0.0+2 0.2+2 0.4+2");
            due(y.healable(), 2);
            due(row(y), "0");
            y.takes(0, 1);
            due(y.healable(), 2);
            due(row(y), "1");
            y.moves(0, 1, 5);
            due(pieces(y), "0.2+2 0.4+2 0.1+1");
            due(y.healable(), 1);
            due(row(y), "0");
            put(y, 0, "xyz");
            due(y.healable(), 1);
            due(row(y), "0");
            PieceBook whole = openTimes("a".repeat(80), 20);
            put(whole, 1600, "b");
            due(whole.healable(), 0);
            due(row(whole), "0");
            y.takes(0, 8);
            due(y.healable(), 0);
            due(y.count(7), 0);
        });
    }
}
