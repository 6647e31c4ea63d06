/** Boundaries that promises 6 to 14 name: what is done to signs and pieces. */
final class EdgesOfEdits extends Asking {
    private static final int MOST = Integer.MAX_VALUE;
    private static final int LEAST = Integer.MIN_VALUE;
    private static final String NONE_AT_2 = "ab" + (char) 0 + (char) 200;

    private EdgesOfEdits() {
    }

    static void tell(Edges edges) {
        inserts(edges);
        type(edges);
        takes(edges);
        puts(edges);
        lays(edges);
        moves(edges);
        movesRefused(edges);
        cuts(edges);
        indents(edges);
        indentsRefused(edges);
        heals(edges);
    }

    private static void inserts(Edges edges) {
        edges.ofPromise(6);
        edges.edge("THE TEXT is inserted at place p (an EDIT; an empty one: nothing, no EDIT): how many SIGNS THE "
            + "BOOK has.", () -> {
            PieceBook x = new PieceBook();
            due(text(x, "b").inserts(0), 1);
            due(text(x, "a".repeat(80)).inserts(0), 81);
            due(x.count(4), 2);
            due(x.count(8), 0);
            // An empty one does not even cut a piece, nor end what can be done again.
            Learnt.dueNoTrace("", y -> y.inserts(0), 24);
            Learnt.dueNoTrace("", y -> y.inserts(7), 24);
            Learnt.dueNoTrace("", y -> y.inserts(24), 24);
            due(new PieceBook().inserts(0), 0);
            due(full().inserts(3000), 3000);
            due(filled(6000).inserts(0), 800);
        });
        edges.edge("-1 - i: the sign at i is none (asked first).", () -> {
            Learnt.dueNoTrace(NONE_AT_2, x -> x.inserts(0), -3);
            Learnt.dueNoTrace(NONE_AT_2, x -> x.inserts(99), -3);
            Learnt.dueNoTrace((char) 128 + "", x -> x.inserts(-1), -1);
            Learnt.dueNoTrace("a".repeat(79) + (char) 0, x -> x.inserts(0), -80);
            Learnt.dueNoTrace(Asking::fullAndSpent, NONE_AT_2, x -> x.inserts(0), -3);
        });
        edges.edge("-100: no such place;", () -> {
            for (int p : new int[] {25, 26, MOST, -1, LEAST}) {
                Learnt.dueNoTrace("ab", x -> x.inserts(p), -100);
                Learnt.dueNoTrace("", x -> x.inserts(p), -100);
            }
            due(text(Learnt.typed(), "ab").inserts(24), 26);
        });
        edges.edge("-101: THE BOOK would have more than 3000;", () -> {
            Learnt.dueNoTrace(Asking::nearlyFull, "b".repeat(41), x -> x.inserts(0), -101);
            due(text(nearlyFull(), "b".repeat(40)).inserts(2960), 3000);
            Learnt.dueNoTrace(Asking::full, "b", x -> x.inserts(3000), -101);
        });
        edges.edge("-102: THE ADDED more than 6000", () -> {
            Learnt.dueNoTrace(() -> filled(5921), "b".repeat(80), x -> x.inserts(0), -102);
            due(text(filled(5921), "b".repeat(79)).inserts(0), 879);
            Learnt.dueNoTrace(() -> filled(6000), "b", x -> x.inserts(800), -102);
        });
        edges.edge("(asked in this order)", () -> {
            due(text(fullAndSpent(), "b").inserts(3001), -100);
            due(text(fullAndSpent(), "b").inserts(3000), -101);
            due(text(filled(6000), "b").inserts(801), -100);
            due(text(filled(6000), "b").inserts(800), -102);
        });
    }

    private static void type(Edges edges) {
        edges.ofPromise(7);
        edges.edge("A SIGN v (1 .. 127) is inserted at place p (an EDIT, or of the last one): how many SIGNS THE "
            + "BOOK has.", () -> {
            PieceBook x = new PieceBook();
            due(x.type(0, 1), 1);
            due(x.type(1, 127), 2);
            due(x.type(2, 10), 3);
            due(x.count(4), 1);
            due(x.count(1), 2);
            due(pieces(x), "1.0+3");
            due(x.undo(), 0);
            due(x.count(0), 0);
            // What is typed is shown at once, also what belongs to the latest edit.
            PieceBook read = open("ab\n");
            for (int i = 0; i < 3; i++) {
                due(read.type(1 + i, 'x' + i), 4 + i);
                due(read.at(1 + i), 'x' + i);
                due(read.line(4 + i), 1);
            }
            due(read.count(4), 1);
        });
        edges.edge("-2: no such place;", () -> {
            for (int p : new int[] {25, 26, MOST, -1, LEAST}) {
                Learnt.dueNoTrace(x -> x.type(p, 'a'), -2);
            }
            due(Learnt.typed().type(24, 'a'), 25);
        });
        edges.edge("-3: it would have more than 3000;", () -> {
            Learnt.dueNoTrace(Asking::full, null, x -> x.type(0, 'a'), -3);
            PieceBook x = full();
            x.takes(0, 1);
            due(x.type(2999, 'b'), 3000);
            // One that would belong to the latest edit is refused, too.
            due(x.type(3000, 'b'), -3);
            due(x.count(4), 3);
        });
        edges.edge("-4: THE ADDED more than 6000;", () -> {
            Learnt.dueNoTrace(() -> filled(6000), null, x -> x.type(0, 'a'), -4);
            PieceBook x = filled(5999);
            due(x.type(0, 'b'), 801);
            due(x.type(1, 'b'), -4);
            due(x.count(3), 6000);
        });
        edges.edge("NONE: another v.", () -> {
            for (int v : new int[] {0, -1, 128, 256 + 'a', MOST, LEAST}) {
                Learnt.dueNoTrace(x -> x.type(0, v), -1);
                Learnt.dueNoTrace(x -> x.type(99, v), -1);
            }
        });
    }

    private static void takes(Edges edges) {
        edges.ofPromise(8);
        edges.edge("n SIGNS (1 or more) at p are taken (an EDIT): how many BREAKS were among them.", () -> {
            PieceBook x = open("a\n\nb");
            due(x.takes(3, 1), 0);
            due(x.takes(1, 1), 1);
            due(x.takes(0, 2), 1);
            due(x.count(0), 0);
            due(x.count(2), 0);
            due(x.count(4), 3);
            due(fullAndSpent().takes(0, 3000), 3000);
        });
        edges.edge("-2: there are not so many;", () -> {
            Learnt.dueNoTrace(x -> x.takes(0, 25), -2);
            Learnt.dueNoTrace(x -> x.takes(23, 2), -2);
            Learnt.dueNoTrace(x -> x.takes(24, 1), -2);
            Learnt.dueNoTrace(x -> x.takes(25, 1), -2);
            Learnt.dueNoTrace(x -> x.takes(1, MOST), -2);
            Learnt.dueNoTrace(x -> x.takes(MOST, 1), -2);
            Learnt.dueNoTrace(x -> x.takes(MOST, MOST), -2);
            due(new PieceBook().takes(0, 1), -2);
            due(Learnt.typed().takes(23, 1), 0);
            due(Learnt.typed().takes(0, 24), 3);
        });
        edges.edge("NONE: n below 1, p below 0.", () -> {
            Learnt.dueNoTrace(x -> x.takes(0, 0), -1);
            Learnt.dueNoTrace(x -> x.takes(0, -1), -1);
            Learnt.dueNoTrace(x -> x.takes(99, 0), -1);
            Learnt.dueNoTrace(x -> x.takes(0, LEAST), -1);
            Learnt.dueNoTrace(x -> x.takes(-1, 1), -1);
            Learnt.dueNoTrace(x -> x.takes(-1, 99), -1);
            Learnt.dueNoTrace(x -> x.takes(LEAST, 1), -1);
            due(new PieceBook().takes(0, 0), -1);
        });
    }

    private static void puts(Edges edges) {
        edges.ofPromise(9);
        edges.edge("n SIGNS (0 or more) at p are taken, then THE TEXT is inserted there (one EDIT;", () -> {
            PieceBook x = open("abcd");
            due(text(x, "xy").puts(4, 0), 6);
            due(text(x, "z").puts(5, 1), 6);
            due(shown(x), "abcdxz");
            due(x.count(4), 2);
            due(x.puts(0, 6), 0);
            due(x.count(4), 3);
            due(text(x, "q").puts(0, 0), 1);
            due(x.count(4), 4);
            // Marks go as by the taking, then as by what comes.
            PieceBook y = open("abcd");
            int[] places = {1, 1, 2, 2, 3, 3, 4, 4};
            for (int i = 0; i < 8; i++) {
                y.marks(i, places[i], i % 2);
            }
            text(y, "xyz").puts(1, 2);
            due(marked(y), "0@1 1@4 2@1 3@4 4@1 5@4 6@5 7@5");
        });
        edges.edge("nothing and no EDIT, if n is 0 and it is empty): how many SIGNS THE BOOK has.", () -> {
            Learnt.dueNoTrace("", x -> x.puts(0, 0), 24);
            Learnt.dueNoTrace("", x -> x.puts(7, 0), 24);
            Learnt.dueNoTrace("", x -> x.puts(24, 0), 24);
            due(new PieceBook().puts(0, 0), 0);
        });
        edges.edge("-1 - i: the sign at i is none (asked first).", () -> {
            Learnt.dueNoTrace(NONE_AT_2, x -> x.puts(0, 1), -3);
            Learnt.dueNoTrace(NONE_AT_2, x -> x.puts(99, -1), -3);
            Learnt.dueNoTrace((char) 255 + "", x -> x.puts(0, 0), -1);
            Learnt.dueNoTrace(Asking::fullAndSpent, NONE_AT_2, x -> x.puts(0, 0), -3);
        });
        edges.edge("-100: there are not so many, or n, p below 0;", () -> {
            int[][] none = {{0, 25}, {23, 2}, {24, 1}, {25, 0}, {1, MOST}, {MOST, 1}, {MOST, MOST}, {MOST, 0},
                {0, -1}, {-1, 0}, {-1, 1}, {LEAST, 0}, {0, LEAST}, {LEAST, LEAST}, {LEAST, MOST}};
            for (int[] pn : none) {
                Learnt.dueNoTrace("ab", x -> x.puts(pn[0], pn[1]), -100);
                Learnt.dueNoTrace("", x -> x.puts(pn[0], pn[1]), -100);
            }
            due(text(Learnt.typed(), "ab").puts(23, 1), 25);
            due(text(Learnt.typed(), "ab").puts(24, 0), 26);
        });
        edges.edge("-101, -102: as inserts() (of THE BOOK as it would be then).", () -> {
            Learnt.dueNoTrace(Asking::full, "bcd", x -> x.puts(0, 2), -101);
            due(text(full(), "bcd").puts(2997, 3), 3000);
            due(text(full(), "b").puts(0, 3000), 1);
            Learnt.dueNoTrace(() -> filled(5999), "bc", x -> x.puts(0, 800), -102);
            due(text(filled(5999), "b").puts(0, 800), 1);
            // What is taken makes no room among the added; but nothing is added by an empty text.
            due(text(filled(6000), "b").puts(0, 1), -102);
            due(filled(6000).puts(0, 1), 799);
            due(text(fullAndSpent(), "bc").puts(0, 3001), -100);
            due(text(fullAndSpent(), "bc").puts(0, 1), -101);
            due(text(fullAndSpent(), "bc").puts(0, 2), -102);
        });
    }

    private static void lays(Edges edges) {
        edges.ofPromise(10);
        edges.edge("n SIGNS (1 or more) from p are laid at a place q (an EDIT): how many SIGNS THE BOOK has.", () -> {
            PieceBook x = open("ab");
            due(x.lays(1, 1, 0), 3);
            due(x.lays(0, 3, 3), 6);
            due(shown(x), "babbab");
            due(x.count(4), 2);
            due(x.count(3), 0);
            due(openTimes("a".repeat(75), 20).lays(0, 1500, 1500), 3000);
        });
        edges.edge("-2: there are not so many, or no such place;", () -> {
            int[][] none = {{0, 25, 0}, {23, 2, 0}, {24, 1, 0}, {25, 1, 0}, {0, 1, 25}, {0, 1, MOST}, {0, MOST, 0},
                {1, MOST, 0}, {MOST, 1, 0}, {MOST, MOST, MOST}};
            for (int[] pnq : none) {
                Learnt.dueNoTrace(x -> x.lays(pnq[0], pnq[1], pnq[2]), -2);
            }
            due(new PieceBook().lays(0, 1, 0), -2);
            due(Learnt.typed().lays(23, 1, 24), 25);
        });
        edges.edge("-3: THE BOOK would have more than 3000;", () -> {
            Learnt.dueNoTrace(Asking::nearlyFull, null, x -> x.lays(0, 41, 2960), -3);
            due(nearlyFull().lays(2920, 40, 2960), 3000);
            Learnt.dueNoTrace(Asking::full, null, x -> x.lays(2999, 1, 0), -3);
            due(full().lays(0, 3001, 0), -2);
        });
        edges.edge("NONE: n below 1, p, q below 0.", () -> {
            int[][] none = {{0, 0, 0}, {0, -1, 0}, {0, LEAST, 0}, {-1, 1, 0}, {LEAST, 1, 0}, {0, 1, -1}, {0, 1, LEAST},
                {99, 0, 99}, {-1, 99, 99}, {99, 99, -1}};
            for (int[] pnq : none) {
                Learnt.dueNoTrace(x -> x.lays(pnq[0], pnq[1], pnq[2]), -1);
            }
            due(full().lays(0, 1, -1), -1);
        });
    }

    private static void moves(Edges edges) {
        edges.ofPromise(11);
        edges.edge("n SIGNS (1 or more) from p go to a place q that is p or less, or p + n or more (an EDIT)", () -> {
            String[] due = {"cdabef", "acdbef", "abcdef", "-2", "abcdef", "abecdf", "abefcd"};
            int[] places = {0, 1, 2, -2, 2, 3, 4};
            for (int q = 0; q <= 6; q++) {
                PieceBook x = open("abcdef");
                due(x.moves(2, 2, q), places[q]);
                due(x.count(4), q == 3 ? 0 : 1);
                due(shown(x), q == 3 ? "abcdef" : due[q]);
            }
            PieceBook all = open("ab");
            due(all.moves(0, 2, 0), 0);
            due(all.moves(0, 2, 2), 0);
            due(shown(all), "ab");
            due(full().moves(0, 1500, 3000), 1500);
        });
        edges.edge("they are laid at q and taken where they were", () -> {
            PieceBook x = open("abcdef");
            put(x, 3, "xy");
            due(x.moves(2, 3, 7), 4);
            due(shown(x), "abdecxyf");
            due(pieces(x), "0.0+2 0.3+2 0.2+1 1.0+2 0.5+1");
            due(x.moves(4, 3, 1), 1);
            due(shown(x), "acxybdef");
            due(pieces(x), "0.0+1 0.2+1 1.0+2 0.1+1 0.3+2 0.5+1");
            due(x.count(3), 2);
        });
        edges.edge("(MARKS between p and p + n, neither of these, go with them; others as by taking n SIGNS at p, "
            + "then by n SIGNS that come at the place of the first of them then;", EdgesOfEdits::marksOfMoves);
        edges.edge("none of it is left out, and it is an EDIT as "
            + "others are, if q is p or p + n): that place.", () -> {
            for (int q : new int[] {2, 5}) {
                PieceBook x = open("abcdefgh");
                x.takes(7, 1);
                x.undo();
                x.marks(0, 2, 0);
                x.marks(1, 2, 1);
                x.marks(2, 3, 0);
                x.marks(3, 4, 1);
                x.marks(4, 5, 0);
                x.marks(5, 5, 1);
                x.marks(6, 6, 0);
                due(x.moves(2, 3, q), 2);
                due(shown(x), "abcdefgh");
                due(pieces(x), "0.0+2 0.2+3 0.5+3");
                due(marked(x), "0@2 1@5 2@3 3@4 4@2 5@5 6@6");
                due(x.count(4), 1);
                due(x.count(5), 0);
            }
        });
    }

    private static void marksOfMoves() {
        int[] places = {1, 2, 3, 4, 5, 6, 7, 0};
        // Forward, from 2 .. 5 to 7: what stays is ahead of 4, where they come.
        PieceBook on = open("abcdefgh");
        PieceBook onSticks = open("abcdefgh");
        for (int i = 0; i < 8; i++) {
            on.marks(i, places[i], 0);
            onSticks.marks(i, places[i], 1);
        }
        due(on.moves(2, 3, 7), 4);
        due(marked(on), "0@1 1@2 2@5 3@6 4@2 5@3 6@4 7@0");
        due(onSticks.moves(2, 3, 7), 4);
        due(marked(onSticks), "0@1 1@2 2@5 3@6 4@2 5@3 6@7 7@0");
        // Back, from 5 .. 7 to 1.
        PieceBook back = open("abcdefgh");
        PieceBook backSticks = open("abcdefgh");
        for (int i = 0; i < 8; i++) {
            back.marks(i, places[i], 0);
            backSticks.marks(i, places[i], 1);
        }
        due(back.moves(5, 2, 1), 1);
        due(marked(back), "0@1 1@4 2@5 3@6 4@7 5@2 6@7 7@0");
        due(backSticks.moves(5, 2, 1), 1);
        due(marked(backSticks), "0@3 1@4 2@5 3@6 4@7 5@2 6@7 7@0");
    }

    private static void movesRefused(Edges edges) {
        edges.edge("-2: there are not so many, no such place, q is between;", () -> {
            int[][] none = {{0, 25, 0}, {23, 2, 0}, {24, 1, 0}, {25, 1, 0}, {0, 1, 25}, {0, 1, MOST}, {0, MOST, 0},
                {1, MOST, 0}, {MOST, 1, 0}, {MOST, MOST, MOST}, {3, 4, 4}, {3, 4, 5}, {3, 4, 6}, {0, 24, 1},
                {0, 24, 23}};
            for (int[] pnq : none) {
                Learnt.dueNoTrace(x -> x.moves(pnq[0], pnq[1], pnq[2]), -2);
            }
            due(new PieceBook().moves(0, 1, 0), -2);
            due(Learnt.typed().moves(23, 1, 24), 23);
        });
        edges.edge("NONE: n below 1, p, q below 0.", () -> {
            int[][] none = {{0, 0, 0}, {0, -1, 0}, {0, LEAST, 0}, {-1, 1, 0}, {LEAST, 1, 0}, {0, 1, -1}, {0, 1, LEAST},
                {99, 0, 99}, {-1, 99, 99}, {99, 99, -1}};
            for (int[] pnq : none) {
                Learnt.dueNoTrace(x -> x.moves(pnq[0], pnq[1], pnq[2]), -1);
            }
        });
    }

    private static void cuts(Edges edges) {
        edges.ofPromise(12);
        edges.edge("A LINE is taken with its BREAK (the last one with the BREAK ahead of it, if there is one; an "
            + "EDIT): how many SIGNS were taken.", () -> {
            PieceBook x = open("ab\n\ncd");
            due(x.cuts(1), 1);
            due(shown(x), "ab/cd");
            due(x.cuts(0), 3);
            due(shown(x), "cd");
            due(x.cuts(0), 2);
            due(x.count(0), 0);
            due(x.count(4), 3);
            PieceBook last = open("ab\n\ncd");
            due(last.cuts(2), 3);
            due(shown(last), "ab/");
            due(last.cuts(1), 1);
            due(shown(last), "ab");
            PieceBook breaks = open("\n");
            due(breaks.cuts(1), 1);
            due(breaks.count(1), 1);
            // Marks as by the taking.
            PieceBook marked = open("ab\ncd\nef");
            marked.marks(0, 2, 0);
            marked.marks(1, 4, 0);
            marked.marks(2, 6, 1);
            due(marked.cuts(1), 3);
            due(marked(marked), "0@2 1@3 2@3");
        });
        edges.edge("-2: THE BOOK is empty;", () -> {
            due(new PieceBook().cuts(0), -2);
            Learnt.dueNoTrace(EdgesOfEdits::emptied, null, x -> x.cuts(0), -2);
        });
        edges.edge("NONE: none such.", () -> {
            for (int line : new int[] {-1, 4, 5, MOST, LEAST}) {
                Learnt.dueNoTrace(x -> x.cuts(line), -1);
            }
            due(Learnt.typed().cuts(3), 2);
            due(new PieceBook().cuts(1), -1);
            due(new PieceBook().cuts(-1), -1);
            due(open("a").cuts(1), -1);
        });
    }

    private static PieceBook emptied() {
        PieceBook x = Learnt.typed();
        x.takes(0, 24);
        return x;
    }

    private static void indents(Edges edges) {
        edges.ofPromise(13);
        edges.edge("n blanks (32; 1 .. 8) are inserted where each of LINES a .. b begins (one EDIT; each time by "
            + "itself, the last LINE first): how many SIGNS THE BOOK has.", () -> {
            PieceBook x = open("a\nb\nc");
            due(x.indents(0, 2, 1), 8);
            due(shown(x), " a/ b/ c");
            due(pieces(x), "1.2+1 0.0+2 1.1+1 0.2+2 1.0+1 0.4+1");
            due(x.count(4), 1);
            due(x.indents(1, 1, 8), 16);
            due(shown(x), " a/         b/ c");
            due(x.undo(), 1);
            due(x.undo(), 0);
            due(shown(x), "a/b/c");
            due(new PieceBook().indents(0, 0, 8), 8);
            due(open("\n").indents(1, 1, 3), 4);
            PieceBook empties = open("\n\na\n\n");
            due(empties.indents(0, 4, 1), 10);
            due(shown(empties), " / / a/ / ");
            due(pieces(empties), "1.4+1 0.0+1 1.3+1 0.1+1 1.2+1 0.2+2 1.1+1 0.4+1 1.0+1");
            // By itself each: a piece that ends where the added does grows, and no other.
            PieceBook typed = new PieceBook();
            typeAll(typed, 0, "a\n");
            due(typed.indents(0, 1, 2), 6);
            due(pieces(typed), "1.4+2 1.0+4");
            // Marks where a line begins: those that stick go on.
            PieceBook marked = open("a\nb");
            marked.marks(0, 0, 0);
            marked.marks(1, 0, 1);
            marked.marks(2, 2, 0);
            marked.marks(3, 2, 1);
            marked.marks(4, 3, 0);
            marked.indents(0, 1, 2);
            due(marked(marked), "0@0 1@2 2@4 3@6 4@7");
        });
    }

    private static void indentsRefused(Edges edges) {
        edges.edge("-2: none such LINES, b is less than a;", () -> {
            int[][] none = {{0, 4}, {4, 4}, {3, 4}, {-1, 0}, {-1, -1}, {1, 0}, {3, 2}, {0, MOST}, {MOST, MOST},
                {LEAST, 0}, {LEAST, MOST}, {MOST, LEAST}, {0, -1}, {0, LEAST}};
            for (int[] ab : none) {
                Learnt.dueNoTrace(x -> x.indents(ab[0], ab[1], 1), -2);
                Learnt.dueNoTrace(x -> x.indents(ab[0], ab[1], 8), -2);
            }
            due(Learnt.typed().indents(3, 3, 1), 25);
            due(new PieceBook().indents(0, 1, 1), -2);
        });
        edges.edge("-3: it would have more than 3000;", () -> {
            Maker maker = () -> {
                PieceBook x = nearlyFull();
                put(x, 0, "\n".repeat(20));
                return x;
            };
            Learnt.dueNoTrace(maker, null, x -> x.indents(0, 20, 1), -3);
            Learnt.dueNoTrace(maker, null, x -> x.indents(18, 20, 7), -3);
            due(maker.make().indents(1, 20, 1), 3000);
            due(maker.make().indents(16, 20, 4), 3000);
            Learnt.dueNoTrace(Asking::full, null, x -> x.indents(0, 0, 1), -3);
        });
        edges.edge("-4: THE ADDED more than 6000;", () -> {
            Learnt.dueNoTrace(() -> filled(5984), null, x -> x.indents(0, 16, 1), -4);
            Learnt.dueNoTrace(() -> filled(5984), null, x -> x.indents(3, 5, 6), -4);
            due(filled(5984).indents(0, 15, 1), 816);
            due(filled(5984).indents(3, 4, 8), 816);
            Learnt.dueNoTrace(() -> filled(6000), null, x -> x.indents(800, 800, 1), -4);
        });
        edges.edge("NONE: another n.", () -> {
            for (int n : new int[] {0, -1, 9, MOST, LEAST}) {
                Learnt.dueNoTrace(x -> x.indents(0, 0, n), -1);
                Learnt.dueNoTrace(x -> x.indents(9, 5, n), -1);
            }
        });
    }

    private static void heals(Edges edges) {
        edges.ofPromise(14);
        edges.edge("PIECES of one STORE, one behind the other, of which the first one's SIGNS end where those of the "
            + "second begin", () -> {
            // Of another store, though the numbers are the same.
            PieceBook stores = open("a");
            put(stores, 1, "xy");
            stores.takes(1, 1);
            due(pieces(stores), "0.0+1 1.1+1");
            due(stores.heals(), 0);
            PieceBook round = open("ab");
            put(round, 0, "x");
            round.takes(1, 1);
            due(pieces(round), "1.0+1 0.1+1");
            due(round.heals(), 0);
            PieceBook whole = openTimes("a".repeat(80), 20);
            put(whole, 1600, "b");
            due(whole.heals(), 0);
            // One behind the other, but the wrong way round; with a sign between; over one another.
            PieceBook x = open("abcdef");
            x.moves(0, 3, 6);
            due(pieces(x), "0.3+3 0.0+3");
            due(x.heals(), 0);
            PieceBook gap = open("abc");
            gap.takes(1, 1);
            due(gap.heals(), 0);
            PieceBook over = open("abc");
            over.lays(1, 2, 2);
            due(pieces(over), "0.0+2 0.1+2 0.2+1");
            due(over.heals(), 0);
        });
        edges.edge("are joined, as long as there are such (an "
            + "EDIT, if there were): how many fewer PIECES there are.", () -> {
            Learnt.dueNoTrace(x -> x.heals(), 0);
            due(new PieceBook().heals(), 0);
            PieceBook x = open("abcdef");
            for (int p = 1; p < 5; p++) {
                x.moves(p, 1, p);
            }
            due(x.count(2), 6);
            due(x.count(4), 4);
            due(x.heals(), 5);
            due(pieces(x), "0.0+6");
            due(x.count(4), 5);
            due(x.heals(), 0);
            due(x.count(4), 5);
            x.undo();
            due(x.count(2), 6);
            due(x.heals(), 5);
            due(x.count(5), 0);
            // What comes behind those that are joined stays as it is, and is joined, too, where it can be.
            PieceBook some = open("abcdef");
            some.moves(1, 1, 1);
            put(some, 4, "xy");
            some.moves(7, 1, 7);
            due(pieces(some), "0.0+1 0.1+1 0.2+2 1.0+2 0.4+1 0.5+1");
            due(some.heals(), 3);
            due(pieces(some), "0.0+4 1.0+2 0.4+2");
            due(shown(some), "abcdxyef");
        });
    }
}
