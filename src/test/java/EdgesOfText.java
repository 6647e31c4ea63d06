/** Boundaries that promises 1 to 5 name: the text, the original. */
final class EdgesOfText extends Asking {
    private EdgesOfText() {
    }

    static void tell(Edges edges) {
        newObject(edges);
        sign(edges);
        end(edges);
        opensAnew(edges);
        opensRefused(edges);
        store(edges);
    }

    private static void newObject(Edges edges) {
        edges.ofPromise(1);
        edges.edge("An empty book.", () -> {
            PieceBook x = new PieceBook();
            for (int what = 0; what < 9; what++) {
                due(x.count(what), what == 1 ? 1 : 0);
            }
            for (int s = 0; s < 2; s++) {
                for (int what = 0; what < 3; what++) {
                    due(x.store(s, what), 0);
                }
            }
            due(x.undo(), -1);
            due(x.redo(), -1);
            due(x.again(0) || x.again(1) || x.again(2), false);
            due(x.at(0), -1);
            due(PieceBook.NONE, -1);
        });
    }

    private static void sign(Edges edges) {
        edges.ofPromise(2);
        edges.edge("Four signs come behind THE TEXT, of v the highest byte first: how many it has.", () -> {
            PieceBook x = new PieceBook();
            due(x.sign('a' << 24 | 'b' << 16 | 'c' << 8 | 'd'), 4);
            due(x.sign(0x7F010A20), 8);
            due(x.inserts(0), 8);
            due(x.at(0), 'a');
            due(x.at(3), 'd');
            due(x.at(4), 127);
            due(x.at(7), 32);
            // Bytes above 127 stay what they are: the first sign that is none is told.
            int[] values = {0x61626380, 0x616280FF, 0x61FF6263, -1, Integer.MIN_VALUE};
            int[] due = {-4, -3, -2, -1, -1};
            for (int i = 0; i < values.length; i++) {
                due(x.sign(values[i]), 4);
                due(x.inserts(0), due[i]);
            }
        });
        edges.edge("Refused: there would be more than 80.", () -> {
            PieceBook x = new PieceBook();
            for (int i = 1; i <= 20; i++) {
                due(x.sign(0x61626364), 4 * i);
            }
            due(x.sign(0x65656565), -1);
            for (int size = 79; size > 76; size--) {
                due(x.end(size), true);
                due(x.sign(0x65656565), -1);
                due(x.count(8), size);
            }
            due(x.end(76), true);
            due(x.sign(0x65656565), 80);
            due(x.inserts(0), 80);
            due(x.at(75), 'd');
            due(x.at(76), 'e');
        });
    }

    private static void end(Edges edges) {
        edges.ofPromise(3);
        edges.edge("THE TEXT has its first n signs alone: true", () -> {
            PieceBook x = new PieceBook();
            due(x.end(0), true);
            x.sign(0x61626364);
            due(x.end(4), true);
            due(x.count(8), 4);
            due(x.end(3), true);
            due(x.inserts(0), 3);
            due(shown(x), "abc");
            x.sign(0x61626364);
            due(x.end(0), true);
            due(x.count(8), 0);
        });
        edges.edge("false if it has not so many, or n is below 0.", () -> {
            PieceBook x = new PieceBook();
            due(x.end(1), false);
            x.sign(0x61626364);
            x.end(3);
            int[] none = {4, 5, 80, Integer.MAX_VALUE, -1, -2, Integer.MIN_VALUE};
            for (int n : none) {
                due(x.end(n), false);
                due(x.count(8), 3);
            }
            due(x.inserts(0), 3);
            due(shown(x), "abc");
        });
    }

    private static void opensAnew(Edges edges) {
        edges.ofPromise(4);
        edges.edge("THE BOOK is anew: THE ORIGINAL is THE TEXT n times (1 .. 20; an empty one: none)", () -> {
            PieceBook x = new PieceBook();
            due(text(x, "ab").opens(1), 2);
            due(shown(x), "ab");
            due(text(x, "ab").opens(20), 40);
            due(shown(x), "ab".repeat(20));
            due(text(x, "ab").opens(3), 6);
            due(x.store(0, 0), 6);
            due(x.opens(1), 0);
            due(x.store(0, 0), 0);
            due(x.opens(20), 0);
            due(x.count(0), 0);
        });
        edges.edge("one PIECE of it (none, if it is empty)", () -> {
            PieceBook x = new PieceBook();
            text(x, "ab").opens(3);
            due(pieces(x), "0.0+6");
            put(x, 3, "x");
            text(x, "c").opens(1);
            due(pieces(x), "0.0+1");
            x.opens(5);
            due(x.count(2), 0);
            dueNoSuchElement(() -> x.piece(0, 0));
        });
        edges.edge("nothing is added", () -> {
            PieceBook x = Learnt.typed();
            text(x, "c").opens(1);
            due(x.count(3), 0);
            due(x.store(1, 0), 0);
            put(x, 1, "d");
            due(pieces(x), "0.0+1 1.0+1");
            // One that was full is empty again.
            PieceBook spent = filled(6000);
            text(spent, "c").opens(1);
            due(spent.type(0, 'd'), 2);
            due(spent.count(3), 1);
        });
        edges.edge("MARKS are unset", () -> {
            PieceBook x = Learnt.typed();
            text(x, "cde").opens(10);
            due(x.count(6), 0);
            for (int i = 0; i < 8; i++) {
                due(x.mark(i), -2);
            }
        });
        edges.edge("no EDITS can be undone or done again", () -> {
            PieceBook x = Learnt.undone();
            due(x.count(4), 2);
            due(x.count(5), 2);
            text(x, "c").opens(1);
            due(x.count(4), 0);
            due(x.count(5), 0);
            due(x.undo(), -1);
            due(x.redo(), -1);
            due(shown(x), "c");
        });
        edges.edge("nothing is kept: how many SIGNS", () -> {
            PieceBook x = open("ab");
            for (int i = 0; i < 3; i++) {
                x.keep(i);
            }
            due(x.opens(1), 0);
            for (int i = 0; i < 3; i++) {
                due(x.again(i), false);
            }
        });
    }

    private static void opensRefused(Edges edges) {
        edges.edge("-1 - p: the sign at p is none (0, or above 127; asked ahead of n).", () -> {
            Learnt.dueNoTrace((char) 0 + "bc", x -> x.opens(1), -1);
            Learnt.dueNoTrace("a" + (char) 128 + (char) 0, x -> x.opens(20), -2);
            Learnt.dueNoTrace("a".repeat(79) + (char) 255, x -> x.opens(1), -80);
            Learnt.dueNoTrace("ab" + (char) 0, x -> x.opens(0), -3);
            Learnt.dueNoTrace("ab" + (char) 200, x -> x.opens(21), -3);
            due(text(new PieceBook(), (char) 1 + "" + (char) 127).opens(1), 2);
        });
        edges.edge("-100: another n (nothing changes but THE TEXT).", () -> {
            for (int n : new int[] {0, -1, 21, Integer.MAX_VALUE, Integer.MIN_VALUE}) {
                Learnt.dueNoTrace("abc", x -> x.opens(n), -100);
                Learnt.dueNoTrace("", x -> x.opens(n), -100);
            }
        });
    }

    private static void store(Edges edges) {
        edges.ofPromise(5);
        edges.edge("Of STORE s how many SIGNS, what 0; 1: BREAKS in it; 2: of how many PIECES.", () -> {
            PieceBook x = open("a\n");
            due(x.store(0, 0) + " " + x.store(0, 1) + " " + x.store(0, 2), "2 1 1");
            due(x.store(1, 0) + " " + x.store(1, 1) + " " + x.store(1, 2), "0 0 0");
            // What is shown no more still counts, but for the pieces.
            put(x, 0, "\n\n");
            x.takes(0, 4);
            due(x.store(0, 0) + " " + x.store(0, 1) + " " + x.store(0, 2), "2 1 0");
            due(x.store(1, 0) + " " + x.store(1, 1) + " " + x.store(1, 2), "2 2 0");
            PieceBook most = fullAndSpent();
            due(most.store(0, 1), 800);
            due(most.store(1, 0) + " " + most.store(1, 1), "6000 0");
            due(openTimes("\n".repeat(80), 20).store(0, 1), 1600);
            // What another book had is of none.
            PieceBook anew = open("a\n\n");
            put(anew, 0, "\n\n");
            text(anew, "b").opens(1);
            due(anew.store(0, 1) + " " + anew.store(1, 1), "0 0");
        });
        edges.edge("NoSuchElementException: another s, another what.", () -> {
            PieceBook x = Learnt.typed();
            for (int none : new int[] {-1, 2, 3, Integer.MAX_VALUE, Integer.MIN_VALUE}) {
                dueNoSuchElement(() -> x.store(none, 0));
                dueNoSuchElement(() -> x.store(none, 2));
            }
            for (int none : new int[] {-1, 3, 4, Integer.MAX_VALUE, Integer.MIN_VALUE}) {
                dueNoSuchElement(() -> x.store(0, none));
                dueNoSuchElement(() -> x.store(1, none));
            }
            due(Learnt.look(x), Learnt.look(Learnt.typed()));
        });
    }
}
