/** Boundaries that promises 15 to 18 name: marks, days, what is undone and done again. */
final class EdgesOfDays extends Asking {
    private static final int MOST = Integer.MAX_VALUE;
    private static final int LEAST = Integer.MIN_VALUE;

    private EdgesOfDays() {
    }

    static void tell(Edges edges) {
        marks(edges);
        acts(edges);
        refusedActs(edges);
        faults(edges);
        undo(edges);
        redo(edges);
    }

    private static void marks(Edges edges) {
        edges.ofPromise(15);
        edges.edge("MARK i is set to place p, and STICKS s (0, 1) (no EDIT): p;", () -> {
            PieceBook x = open("ab");
            x.takes(0, 1);
            x.undo();
            due(x.marks(0, 0, 0), 0);
            due(x.marks(7, 2, 1), 2);
            due(marked(x), "0@0 7@2");
            due(x.count(4), 0);
            due(x.count(5), 1);
            put(x, 2, "c");
            put(x, 0, "d");
            due(marked(x), "0@0 7@4");
            due(x.marks(0, 0, 1), 0);
            due(x.marks(7, 4, 0), 4);
            put(x, 4, "e");
            put(x, 0, "f");
            due(marked(x), "0@1 7@5");
            due(new PieceBook().marks(3, 0, 0), 0);
        });
        edges.edge("a place of -1: it is unset: -1.", () -> {
            PieceBook x = open("ab");
            x.marks(3, 1, 1);
            due(x.marks(3, -1, 0), -1);
            due(x.mark(3), -2);
            due(x.count(6), 0);
            due(x.marks(3, -1, 1), -1);
            // An unset one stays so, whatever comes and goes.
            put(x, 0, "cd");
            x.takes(0, 1);
            x.moves(0, 1, 3);
            x.lays(0, 2, 0);
            due(x.count(6), 0);
            due(x.between(-9, 9), 0);
        });
        edges.edge("-3: another i, another s (asked first);", () -> {
            int[][] none = {{-1, 0, 0}, {8, 0, 0}, {MOST, 0, 0}, {LEAST, 0, 0}, {0, 0, -1}, {0, 0, 2}, {0, 0, MOST},
                {0, 0, LEAST}, {8, 99, 0}, {0, 99, 2}, {8, -1, 0}, {0, -1, 2}};
            for (int[] ips : none) {
                Learnt.dueNoTrace(x -> x.marks(ips[0], ips[1], ips[2]), -3);
            }
        });
        edges.edge("-2: no such place.", () -> {
            for (int p : new int[] {25, 26, MOST, -2, -3, LEAST}) {
                Learnt.dueNoTrace(x -> x.marks(0, p, 1), -2);
            }
            due(Learnt.typed().marks(0, 24, 0), 24);
            due(new PieceBook().marks(0, 1, 0), -2);
        });
    }

    private static void acts(Edges edges) {
        edges.ofPromise(16);
        edges.edge("THE TEXT tells A DAY (an empty one: nothing), acts one behind another:", () -> {
            PieceBook x = Learnt.typed();
            x.end(0);
            due(x.day(), 0);
            due(row(x), "0 24");
            due(x.count(4), 4);
            x.type(Learnt.TYPED_BEHIND, 't');
            due(x.count(4), 4);
            due(new PieceBook().day(), 0);
            // Acts see what those ahead of them did.
            PieceBook acts = open("ab");
            due(text(acts, "l0000020002m0003010000d000101i0003z").day(), 4);
            due(shown(acts), "bbaz");
        });
        edges.edge("i, four digits and a letter a .. z or / (type() of it at the place; /: a BREAK)", () -> {
            PieceBook x = new PieceBook();
            due(text(x, "i0000ai0001zi0002/").day(), 3);
            due(shown(x), "az/");
            due(x.count(1), 2);
            due(x.count(4), 1);
            due(pieces(x), "1.0+3");
            // The letter may be the last sign that a text can have.
            PieceBook most = new PieceBook();
            due(text(most, "hh" + "i0000a".repeat(12) + "i0000z").day(), 15);
            due(shown(most), "z" + "a".repeat(12));
            // Digits tell a place in full.
            PieceBook far = nearlyFull();
            due(text(far, "i2960bi1234ci0000d").day(), 3);
            due(far.at(0), 'd');
            due(far.at(1235), 'c');
            due(far.at(2962), 'b');
        });
        edges.edge("d, four digits and two digits (takes())", () -> {
            PieceBook x = nearlyFull();
            due(text(x, "d286199d286001d000010").day(), 3);
            due(row(x), "0 2850");
            due(x.count(4), 4);
        });
        edges.edge("l, four digits, two digits and four digits (lays()), m the same (moves())", () -> {
            PieceBook x = openTimes("a".repeat(49) + "b", 2);
            due(text(x, "l0001990100").day(), 1);
            due(row(x), "0 199");
            due(x.at(198), 'b');
            due(text(x, "m0099010000m0100990002").day(), 2);
            due(x.at(0), 'b');
            due(x.at(1), 'a');
            due(x.at(100), 'b');
            due(x.count(4), 3);
        });
        edges.edge("h (heals()), u (undo()), r (redo())", () -> {
            PieceBook x = open("abc");
            x.moves(1, 1, 1);
            due(text(x, "h").day(), 1);
            due(x.count(2), 1);
            due(text(x, "hu").day(), 2);
            due(x.count(2), 3);
            due(text(x, "uurr").day(), 1);
            due(row(x), "1 3");
            due(text(x, "rrh").day(), 3);
            due(x.count(2), 1);
            due(text(x, "h".repeat(80)).day(), 80);
        });
    }

    private static void refusedActs(Edges edges) {
        edges.edge("they are done one by one, till one is refused (it answers below 0; u, r: if there is nothing): "
            + "how many were done;", () -> {
            String[] refused = {"i0004a", "i9999a", "d000400", "d000004", "d000301", "d999901", "l0000000000",
                "l0000040000", "l0000010004", "m0000000000", "m0000040000", "m0000010004", "m0000030001", "r"};
            for (String act : refused) {
                PieceBook x = open("ab");
                due(text(x, "hi0002c" + act + "i0000z").day(), 2);
                due(row(x), "1 3");
                due(shown(x), "abc");
                due(x.count(4), 1);
            }
            PieceBook nothing = open("ab");
            due(text(nothing, "ui0000z").day(), 0);
            due(shown(nothing), "ab");
            due(text(full(), "i0000a").day(), 0);
            due(text(filled(6000), "i0000a").day(), 0);
            due(text(full(), "l0000010000").day(), 0);
            // heals() is never refused; a moves() that ends where it began is not, either.
            due(text(nothing, "hhm0000010000").day(), 3);
        });
        edges.edge("the ROW: 1 if one was refused, else 0; how many SIGNS THE BOOK has.", () -> {
            PieceBook x = open("ab");
            due(text(x, "i0000c").day(), 1);
            due(row(x), "0 3");
            due(text(x, "d000004").day(), 0);
            due(row(x), "1 3");
            // The last act of a day may be the one that is refused.
            due(text(x, "d000003d000001").day(), 1);
            due(row(x), "1 0");
        });
        edges.edge("Each act does what its call does, and is an EDIT, or belongs to one, as that does.", () -> {
            PieceBook x = new PieceBook();
            x.type(0, 'a');
            text(x, "i0001bhi0002c").day();
            x.type(3, 'd');
            due(x.count(4), 1);
            text(x, "i0003ei0005f").day();
            due(x.count(4), 3);
            text(x, "d000001").day();
            x.type(5, 'g');
            due(x.count(4), 5);
            PieceBook marked = open("abcd");
            marked.marks(0, 2, 1);
            text(marked, "i0002x").day();
            due(marked(marked), "0@3");
            text(marked, "u").day();
            due(marked(marked), "0@2");
        });
    }

    private static void faults(Edges edges) {
        edges.edge("-1 - p: the sign at p can't stand there "
            + "(its end, if it ends too early); nothing is done then.", () -> {
            // Each act broken at each of its signs, ahead of it one that would be done.
            for (String act : new String[] {"i0000a", "d000001", "l0000010000", "m0000010000"}) {
                for (int k = 0; k < act.length(); k++) {
                    int fault = 6 + k;
                    char[] others = k == 0 ? new char[] {'a', 'I', '0', ' '}
                            : act.charAt(k) == 'a' ? new char[] {'`', '{', '.', '0', 'A'}
                            : new char[] {'/', ':', 'a', ' '};
                    for (char v : others) {
                        String day = "i0000b" + act.substring(0, k) + v + act.substring(k + 1);
                        Learnt.dueNoTrace(day, x -> x.day(), -1 - fault);
                    }
                    for (char v : new char[] {0, 128, 255, (char) (act.charAt(k) + 128)}) {
                        String day = "i0000b" + act.substring(0, k) + v + act.substring(k + 1);
                        Learnt.dueNoTrace(Learnt::typed, day, x -> x.day(), -1 - fault);
                    }
                    if (k > 0) {
                        Learnt.dueNoTrace("i0000b" + act.substring(0, k), x -> x.day(), -1 - fault);
                    }
                }
            }
            Learnt.dueNoTrace("x", x -> x.day(), -1);
            Learnt.dueNoTrace("h".repeat(79) + "i", x -> x.day(), -81);
            Learnt.dueNoTrace("hurH", x -> x.day(), -4);
            // A fault counts, even behind an act that would be refused.
            Learnt.dueNoTrace("d999901x", x -> x.day(), -8);
        });
    }

    private static void undo(Edges edges) {
        edges.ofPromise(17);
        edges.edge("THE BOOK (PIECES) and MARKS are as ahead of the latest EDIT (of 30 that are kept, the latest "
            + "ones;", () -> {
            for (int edits = 29; edits <= 32; edits++) {
                PieceBook x = new PieceBook();
                for (int i = 0; i < edits; i++) {
                    x.type(0, 'a' + i % 26);
                }
                int kept = Math.min(edits, 30);
                due(x.count(4), kept);
                for (int left = kept - 1; left >= 0; left--) {
                    due(x.undo(), left);
                }
                due(x.undo(), -1);
                due(x.count(0), edits - kept);
                due(x.count(5), kept);
            }
            PieceBook x = open("abcdef");
            x.marks(0, 3, 0);
            x.takes(2, 2);
            due(x.undo(), 0);
            due(pieces(x), "0.0+6");
            due(marked(x), "0@3");
        });
        edges.edge("of one that was done again: as ahead of "
            + "that redo()): how many are left that can be undone.", () -> {
            PieceBook x = new PieceBook();
            x.type(0, 'a');
            x.undo();
            x.marks(1, 0, 1);
            due(x.redo(), 0);
            due(x.mark(1), -2);
            due(x.undo(), 0);
            due(x.mark(1), 0);
            // The same deeper down: each of two that were done again.
            PieceBook y = open("abc");
            y.takes(0, 1);
            y.takes(0, 1);
            y.undo();
            y.marks(2, 1, 0);
            y.undo();
            y.marks(3, 3, 0);
            y.redo();
            due(marked(y), "2@1");
            y.redo();
            due(marked(y), "");
            due(y.undo(), 1);
            due(marked(y), "2@1");
            due(y.undo(), 0);
            due(marked(y), "3@3");
        });
        edges.edge("THE ADDED stays.", () -> {
            PieceBook x = new PieceBook();
            put(x, 0, "ab");
            x.undo();
            due(x.count(3), 2);
            due(x.lost(1), 2);
            due(filled(6000).type(0, 'a'), -4);
        });
        edges.edge("Refused: none.", () -> {
            due(new PieceBook().undo(), -1);
            Maker maker = () -> {
                PieceBook x = Learnt.undone();
                x.undo();
                x.undo();
                return x;
            };
            due(maker.make().count(4), 0);
            Learnt.dueNoTrace(maker, null, x -> x.undo(), -1);
        });
        edges.edge("(MARKS come back as they were then; what marks() did since is lost.)", () -> {
            PieceBook x = open("abcd");
            x.marks(0, 4, 0);
            x.marks(1, 1, 1);
            x.takes(3, 1);
            x.marks(0, -1, 0);
            x.marks(1, 2, 0);
            x.marks(2, 0, 0);
            x.undo();
            due(marked(x), "0@4 1@1");
            // How it sticks comes back, too.
            put(x, 1, "x");
            due(marked(x), "0@5 1@2");
        });
    }

    private static void redo(Edges edges) {
        edges.ofPromise(18);
        edges.edge("THE BOOK and MARKS are as ahead of the latest undo() (till another EDIT comes): how many are "
            + "left that can be done again.", () -> {
            PieceBook x = open("ab");
            x.takes(0, 1);
            put(x, 1, "cd");
            x.marks(2, 3, 0);
            x.undo();
            due(x.undo(), 0);
            due(x.redo(), 1);
            due(shown(x), "b");
            due(x.redo(), 0);
            due(shown(x), "bcd");
            due(pieces(x), "0.1+1 1.0+2");
            due(marked(x), "2@3");
            Call[] edits = {y -> text(y, "z").inserts(0), y -> y.type(0, 'z'), y -> y.takes(0, 1), y -> y.puts(0, 1),
                y -> y.lays(0, 1, 0), y -> y.moves(0, 1, 0), y -> y.cuts(0), y -> y.indents(0, 0, 1),
                y -> text(y, "i0000a").day()};
            for (Call edit : edits) {
                PieceBook y = Learnt.undone();
                due(y.count(5), 2);
                edit.of(y);
                due(y.count(5), 0);
                due(y.redo(), -1);
            }
            // All of 30 that were undone can be done again, each as it was, however many came ahead of them.
            for (int n = 30; n <= 62; n += 8) {
                PieceBook most = new PieceBook();
                for (int i = 0; i < n; i++) {
                    most.type(0, 1 + i);
                }
                for (int i = 1; i <= 30; i++) {
                    due(most.undo(), 30 - i);
                    due(most.at(0), n == i ? -1 : n - i);
                }
                for (int i = 29; i >= 0; i--) {
                    due(most.redo(), i);
                    due(most.at(0), n - i);
                }
                due(most.count(0), n);
                due(most.count(4), 30);
            }
        });
        edges.edge("Refused: none.", () -> {
            due(new PieceBook().redo(), -1);
            Learnt.dueNoTrace(Learnt::typed, null, x -> x.redo(), -1);
            Maker maker = () -> {
                PieceBook x = Learnt.undone();
                x.redo();
                x.redo();
                return x;
            };
            due(maker.make().count(5), 0);
            Learnt.dueNoTrace(maker, null, x -> x.redo(), -1);
        });
    }
}
