/** What the document says under "What it is" and "Terms". */
final class EdgesOfTerms extends Asking {
    private EdgesOfTerms() {
    }

    static void tell(Edges edges) {
        whatItIs(edges);
        edges.of("Terms");
        signsAndStores(edges);
        inserting(edges);
        takingAndLaying(edges);
        marksMoving(edges);
        edits(edges);
        lines(edges);
        rowsAndQuestions(edges);
        refusals(edges);
        searched(edges);
    }

    private static void whatItIs(Edges edges) {
        edges.of("What it is");
        edges.edge("An object is used for at most 512 calls after it has been made", () -> {
            PieceBook x = new PieceBook();
            for (int i = 0; i < 480; i++) {
                due(x.type(0, 'a' + i % 26), i + 1);
            }
            for (int left = 29; left >= 0; left--) {
                due(x.undo(), left);
            }
            due(x.undo(), -1);
            due(x.count(0), 450);
            PieceBook typed = new PieceBook();
            for (int i = 0; i < 512; i++) {
                due(typed.type(i, 'a'), i + 1);
            }
        });
    }

    private static void signsAndStores(Edges edges) {
        edges.edge("A SIGN is a number 1 .. 127", () -> {
            PieceBook x = new PieceBook();
            due(x.type(0, 1), 1);
            due(x.type(1, 127), 2);
            due(x.at(0), 1);
            due(x.at(1), 127);
            due(x.type(0, 0), -1);
            due(x.type(0, 128), -1);
            due(text(x, (char) 1 + "" + (char) 127).inserts(2), 4);
            due(text(x, (char) 0 + "").inserts(0), -1);
            due(text(x, (char) 128 + "").inserts(0), -1);
        });
        edges.edge("10 is a BREAK.", () -> {
            for (int v = 1; v <= 127; v++) {
                PieceBook x = open("a" + (char) v + "b");
                due(x.count(1), v == 10 ? 2 : 1);
                due(x.store(0, 1), v == 10 ? 1 : 0);
                due(x.line(2), v == 10 ? 1 : 0);
                due(x.takes(1, 1), v == 10 ? 1 : 0);
            }
        });
        edges.edge("THE ORIGINAL (at most 1600 SIGNS, at first none)", () -> {
            PieceBook x = new PieceBook();
            due(x.store(0, 0), 0);
            due(text(x, "a".repeat(79) + "z").opens(20), 1600);
            due(x.store(0, 0), 1600);
            due(x.at(1599), 'z');
            due(text(x, "b".repeat(80)).opens(21), -100);
            due(x.store(0, 0), 1600);
            due(x.at(0), 'a');
        });
        edges.edge("and THE ADDED (at most 6000 SIGNS, at first none)", () -> {
            due(new PieceBook().store(1, 0), 0);
            PieceBook x = filled(5999);
            due(x.type(0, 'a'), 801);
            due(x.store(1, 0), 6000);
            due(x.type(1, 'a'), -4);
            due(x.store(1, 0), 6000);
            due(x.from(1, 5999), 1);
            due(x.from(1, 6000), -1);
        });
        stores(edges);
        pieces(edges);
        book(edges);
    }

    private static void stores(Edges edges) {
        edges.edge("are STORES 0 and 1.", () -> {
            PieceBook x = open("abc");
            put(x, 3, "de");
            due(x.store(0, 0), 3);
            due(x.store(1, 0), 2);
            due(x.piece(0, 0), 0);
            due(x.piece(1, 0), 1);
            due(x.from(0, 2), 1);
            due(row(x), "2");
            due(x.from(1, 0), 1);
            due(row(x), "3");
            dueNoSuchElement(() -> x.store(2, 0));
            dueNoSuchElement(() -> x.store(-1, 0));
        });
    }

    private static void pieces(Edges edges) {
        edges.edge("PIECES 0, 1, ..: each a STORE, a START (a place in it, from 0 on) and", () -> {
            PieceBook x = open("abcd");
            put(x, 0, "xy");
            x.takes(3, 1);
            int[][] due = {{1, 0, 2}, {0, 0, 1}, {0, 2, 2}};
            due(x.count(2), due.length);
            for (int i = 0; i < due.length; i++) {
                for (int what = 0; what < due[i].length; what++) {
                    due(x.piece(i, what), due[i][what]);
                }
            }
            dueNoSuchElement(() -> x.piece(3, 0));
            dueNoSuchElement(() -> x.piece(-1, 0));
        });
        edges.edge("it shows so many SIGNS from there on.", () -> {
            PieceBook x = open("abcd");
            put(x, 1, "xyz");
            x.takes(5, 1);
            due(pieces(x), "0.0+1 1.0+3 0.1+1 0.3+1");
            String[] due = {"0 0 0", "0 1 0", "1 1 1", "2 1 2", "0 0 1", "0 0 3"};
            for (int p = 0; p < due.length; p++) {
                x.shows(p);
                due(row(x), due[p]);
            }
            due(shown(x), "axyzbd");
        });
        edges.edge("a LENGTH (1 or more)", () -> {
            PieceBook x = open("abcd");
            put(x, 2, "xy");
            put(x, 2, "z");
            due(pieces(x), "0.0+2 1.2+1 1.0+2 0.2+2");
            x.takes(2, 1);
            due(pieces(x), "0.0+2 1.0+2 0.2+2");
            x.lays(2, 2, 2);
            due(pieces(x), "0.0+2 1.0+2 1.0+2 0.2+2");
            x.moves(2, 2, 2);
            due(pieces(x), "0.0+2 1.0+2 1.0+2 0.2+2");
            x.moves(0, 2, 8);
            due(pieces(x), "1.0+2 1.0+2 0.2+2 0.0+2");
            x.puts(0, 2);
            due(pieces(x), "1.0+2 0.2+2 0.0+2");
            x.takes(0, 6);
            due(x.count(2), 0);
        });
    }

    private static void book(Edges edges) {
        edges.edge("THE BOOK is what PIECES show, one behind the other;", () -> {
            PieceBook x = open("abc");
            due(shown(x), "abc");
            x.lays(1, 1, 0);
            x.moves(3, 1, 0);
            put(x, 2, "xy");
            due(pieces(x), "0.2+1 0.1+1 1.0+2 0.0+2");
            due(shown(x), "cbxyab");
            int begin = 0;
            for (int i = 0; i < x.count(2); i++) {
                due(x.piece(i, 4), begin);
                begin += x.piece(i, 2);
            }
            due(x.count(0), begin);
        });
        edges.edge("it has at most 3000 SIGNS", () -> {
            PieceBook x = full();
            due(x.count(0), 3000);
            due(x.at(2999), 'a');
            due(x.at(3000), -1);
            due(x.type(3000, 'b'), -3);
            due(text(x, "b").inserts(3000), -101);
            due(text(x, "bc").puts(0, 1), -101);
            due(x.lays(0, 1, 0), -3);
            due(x.indents(0, 0, 1), -3);
            due(x.count(0), 3000);
            due(x.takes(0, 1), 0);
            due(x.type(2999, 'b'), 3000);
        });
        edges.edge("(places 0, 1, ..;", () -> {
            PieceBook x = open("ab");
            due(x.at(-1), -1);
            due(x.at(0), 'a');
            due(x.at(1), 'b');
            due(x.at(2), -1);
        });
        edges.edge("place p, too, is where something comes ahead of SIGN p, or behind all", () -> {
            PieceBook x = open("ab");
            put(x, 0, "x");
            due(shown(x), "xab");
            put(x, 3, "y");
            due(shown(x), "xaby");
            put(x, 2, "z");
            due(shown(x), "xazby");
            due(text(x, "w").inserts(6), -100);
        });
    }

    private static void inserting(Edges edges) {
        edges.edge("To INSERT a text (1 SIGN or more) at a place p: it comes behind THE ADDED.", () -> {
            PieceBook x = open("a");
            put(x, 1, "b");
            x.undo();
            put(x, 1, "de");
            due(pieces(x), "0.0+1 1.1+2");
            due(x.store(1, 0), 3);
        });
        edges.edge("If p is above 0", () -> {
            PieceBook x = new PieceBook();
            put(x, 0, "ab");
            put(x, 0, "cd");
            due(pieces(x), "1.2+2 1.0+2");
            x.takes(0, 4);
            put(x, 0, "e");
            due(pieces(x), "1.4+1");
        });
        edges.edge("and the PIECE that shows SIGN p - 1 shows it last", () -> {
            PieceBook x = new PieceBook();
            put(x, 0, "abc");
            put(x, 2, "x");
            due(pieces(x), "1.0+2 1.3+1 1.2+1");
        });
        edges.edge("is of STORE 1", () -> {
            // The original ends where the added does: at 2, and, held in one row, at its most.
            PieceBook x = open("ab");
            put(x, 0, "xy");
            put(x, 4, "z");
            due(pieces(x), "1.0+2 0.0+2 1.2+1");
            PieceBook whole = openTimes("a".repeat(80), 20);
            put(whole, 1600, "b");
            due(pieces(whole), "0.0+1600 1.0+1");
        });
        edges.edge("and ended where THE ADDED did ahead of this: its LENGTH is so much more.", () -> {
            PieceBook x = new PieceBook();
            put(x, 0, "ab");
            put(x, 2, "cde");
            due(pieces(x), "1.0+5");
            put(x, 0, "f");
            put(x, 6, "g");
            due(pieces(x), "1.5+1 1.0+5 1.6+1");
            // After an undo the added goes on from where it was: what is shown no longer ends there.
            PieceBook y = new PieceBook();
            put(y, 0, "ab");
            put(y, 2, "c");
            y.undo();
            put(y, 2, "d");
            due(pieces(y), "1.0+2 1.3+1");
            // A piece that was laid ends there as well.
            PieceBook z = new PieceBook();
            put(z, 0, "ab");
            z.lays(0, 2, 2);
            put(z, 2, "c");
            due(pieces(z), "1.0+3 1.0+2");
        });
        edges.edge("Else a PIECE of the text comes at p; one that shows SIGNS ahead of p and behind it is cut in two "
            + "there.", () -> {
            PieceBook x = open("abcd");
            put(x, 1, "x");
            due(pieces(x), "0.0+1 1.0+1 0.1+3");
            put(x, 0, "y");
            put(x, 6, "z");
            due(pieces(x), "1.1+1 0.0+1 1.0+1 0.1+3 1.2+1");
        });
    }

    private static void takingAndLaying(Edges edges) {
        edges.edge("To TAKE n SIGNS at a place p: what shows them is gone:", () -> {
            PieceBook x = open("abcdef");
            x.lays(1, 3, 6);
            due(shown(x), "abcdefbcd");
            x.takes(2, 3);
            // The copy of what is taken stays, as do the signs of the store.
            due(shown(x), "abfbcd");
            due(x.from(0, 2), 1);
            due(row(x), "4");
            due(x.from(0, 4), 0);
            due(x.store(0, 0), 6);
            x.takes(3, 3);
            due(shown(x), "abf");
            due(x.from(0, 2), 0);
            due(x.lost(0), 3);
        });
        edges.edge("PIECES that show nothing else are gone, others are cut (one that shows SIGNS ahead of them and "
            + "behind them becomes two).", () -> {
            PieceBook x = open("abcdef");
            x.takes(2, 2);
            due(pieces(x), "0.0+2 0.4+2");
            x.takes(1, 2);
            due(pieces(x), "0.0+1 0.5+1");
            x.takes(0, 1);
            due(pieces(x), "0.5+1");
            x.takes(0, 1);
            due(pieces(x), "");
        });
        edges.edge("To LAY n SIGNS from p at a place q (as all is ahead of this)", () -> {
            PieceBook inside = open("abcd");
            inside.lays(0, 4, 2);
            due(shown(inside), "ababcdcd");
            due(pieces(inside), "0.0+2 0.0+4 0.2+2");
            PieceBook ahead = open("abcd");
            ahead.lays(1, 2, 1);
            due(pieces(ahead), "0.0+1 0.1+2 0.1+3");
            PieceBook behind = open("abcd");
            behind.lays(1, 2, 3);
            due(pieces(behind), "0.0+3 0.1+2 0.3+1");
        });
        edges.edge("PIECES by which they are shown, cut to them, come at q, too (one that shows SIGNS ahead of q and "
            + "behind it is cut in two there).", () -> {
            PieceBook x = open("abcd");
            put(x, 2, "xy");
            x.lays(1, 4, 6);
            due(pieces(x), "0.0+2 1.0+2 0.2+2 0.1+1 1.0+2 0.2+1");
            x.lays(2, 1, 1);
            due(pieces(x), "0.0+1 1.0+1 0.1+1 1.0+2 0.2+2 0.1+1 1.0+2 0.2+1");
        });
        edges.edge("None are joined by this.", () -> {
            PieceBook x = open("abcd");
            x.lays(0, 2, 4);
            x.lays(2, 2, 6);
            due(shown(x), "abcdabcd");
            due(pieces(x), "0.0+4 0.0+2 0.2+2");
        });
    }

    private static void marksMoving(Edges edges) {
        edges.edge("MARKS 0 .. 7: each a place 0 .. as many SIGNS as there are, or unset (at first), and STICKS (0 "
            + "or 1).", () -> {
            PieceBook x = open("abc");
            for (int i = 0; i < 8; i++) {
                due(x.mark(i), -2);
            }
            due(x.marks(0, 0, 0), 0);
            due(x.marks(7, 3, 1), 3);
            due(x.marks(1, 4, 0), -2);
            due(x.marks(1, -2, 0), -2);
            due(x.marks(8, 0, 0), -3);
            due(x.marks(-1, 0, 0), -3);
            due(x.marks(1, 0, 2), -3);
            due(x.marks(1, 0, -1), -3);
            due(marked(x), "0@0 7@3");
        });
        edges.edge("When n SIGNS come at p (inserted or laid), a MARK "
            + "behind p goes n on, one at p if it STICKS.", () -> {
            Call[] comes = {x -> text(x, "xy").inserts(3), x -> text(x, "xy").puts(3, 0), x -> x.lays(0, 2, 3),
                x -> x.indents(1, 1, 2)};
            for (Call call : comes) {
                PieceBook x = markedBook();
                due(call.of(x), 10);
                due(marked(x), "0@0 1@2 2@3 3@5 4@6 5@6 6@10 7@10");
            }
            PieceBook typed = markedBook();
            due(typed.type(3, 'x'), 9);
            due(marked(typed), "0@0 1@2 2@3 3@4 4@5 5@5 6@9 7@9");
        });
        edges.edge("When n are taken at p, a MARK at p + n or "
            + "behind goes n back, one between p and p + n to p.", () -> {
            PieceBook x = open("abcdefgh");
            for (int i = 0; i < 6; i++) {
                x.marks(i, i + 1, i % 2);
            }
            x.takes(2, 3);
            due(marked(x), "0@1 1@2 2@2 3@2 4@2 5@3");
            PieceBook behind = open("ab");
            behind.marks(0, 2, 0);
            behind.takes(1, 1);
            due(marked(behind), "0@1");
            behind.takes(0, 1);
            due(marked(behind), "0@0");
        });
    }

    /** A book of 8 signs with a break ahead of place 3, and marks about that place. */
    private static PieceBook markedBook() {
        PieceBook x = open("ab\ncdefg");
        int[] places = {0, 2, 3, 3, 4, 4, 8, 8};
        for (int i = 0; i < 8; i++) {
            x.marks(i, places[i], i % 2);
        }
        return x;
    }

    private static void edits(Edges edges) {
        edges.edge("EDITS: calls of the second part (what is done) of which it is said are one each, if they are not "
            + "refused.", () -> {
            PieceBook x = open("ab\ncd");
            Call[] done = {y -> text(y, "x").inserts(0), y -> y.type(0, 'a'), y -> y.takes(0, 1),
                y -> text(y, "y").puts(0, 1), y -> y.lays(0, 1, 2), y -> y.moves(0, 1, 1), y -> y.indents(0, 1, 1),
                y -> y.cuts(0), y -> y.moves(1, 1, 1), y -> y.heals()};
            for (int i = 0; i < done.length; i++) {
                due(bit(done[i].of(x) >= 0), 1);
                due(x.count(4), i + 1);
            }
            Call[] refused = {y -> text(y, "x").inserts(99), y -> y.type(99, 'a'), y -> y.takes(0, 99),
                y -> text(y, "y").puts(0, 99), y -> y.lays(0, 99, 2), y -> y.moves(0, 2, 1), y -> y.indents(0, 99, 1),
                y -> y.cuts(99), y -> text(y, "x").day(), y -> y.marks(0, 99, 0), y -> y.redo()};
            for (Call call : refused) {
                due(bit(call.of(x) < 0), 1);
                due(x.count(4), done.length);
            }
        });
        edges.edge("A type() belongs to the EDIT of the type() ahead "
            + "of it, if its place is one behind that one's", () -> {
            PieceBook x = open("abcd");
            int[] places = {1, 2, 2, 1, 3, 4, 0, 1, 2};
            int[] due = {1, 1, 2, 3, 4, 4, 5, 5, 5};
            for (int i = 0; i < places.length; i++) {
                x.type(places[i], 'x');
                due(x.count(4), due[i]);
            }
            due(x.undo(), 4);
            due(x.count(0), 10);
        });
        edges.edge("and no other call did anything between (an EDIT, undo(), redo(), opens(), again(), and marks(), "
            + "whatever it sets, that are not refused;", EdgesOfTerms::partedTypes);
        edges.edge("questions, keep(), what is refused, edits that do nothing (but moves()), sign(), end() do not "
            + "matter).", EdgesOfTerms::joinedTypes);
    }

    /** How many edits more a type() behind another is, if a call comes between. */
    private static int editsMore(Call between) {
        PieceBook x = open("qr\ns");
        x.keep(1);
        x.lays(0, 1, 4);
        x.marks(3, 2, 0);
        x.type(1, 'a');
        between.of(x);
        int edits = x.count(4);
        x.type(2, 'b');
        return x.count(4) - edits;
    }

    private static void partedTypes() {
        Call[] parting = {x -> text(x, "b").inserts(2), x -> text(x, "b").inserts(0), x -> x.takes(3, 1),
            x -> x.puts(3, 1), x -> text(x, "b").puts(2, 0), x -> x.lays(0, 1, 3), x -> x.moves(0, 1, 0),
            x -> x.moves(0, 1, 1), x -> x.moves(0, 2, 4), x -> x.cuts(1), x -> x.indents(0, 0, 1), x -> healsOne(x),
            x -> undoOne(x), x -> undoAndRedo(x), x -> text(x, "abc").opens(1), x -> bit(x.again(1)), x -> keptNow(x),
            x -> x.marks(0, 0, 0), x -> x.marks(0, -1, 0), x -> x.marks(3, -1, 0), x -> x.marks(3, 2, 0),
            x -> text(x, "d000301").day(), x -> text(x, "ur").day(), x -> text(x, "m0000010000").day()};
        for (int i = 0; i < parting.length; i++) {
            due("call " + i + ": " + editsMore(parting[i]), "call " + i + ": 1");
        }
    }

    /** Something is left to heal ahead of the type(), so that heals() comes next to it, as an edit. */
    private static long healsOne(PieceBook x) {
        x.moves(3, 1, 3);
        x.type(1, 'a');
        return x.heals();
    }

    private static long undoOne(PieceBook x) {
        x.takes(0, 1);
        x.type(1, 'a');
        return x.undo();
    }

    private static long undoAndRedo(PieceBook x) {
        x.undo();
        return x.redo();
    }

    private static long keptNow(PieceBook x) {
        x.keep(0);
        return bit(x.again(0));
    }

    private static void joinedTypes() {
        Call[] questions = {x -> x.store(0, 0), x -> x.at(0), x -> x.reads(0, 3), x -> x.line(1), x -> x.starts(0),
            x -> x.place(0, 1), x -> x.longest(), x -> x.mark(0), x -> x.between(0, 9), x -> x.piece(0, 0),
            x -> x.shows(0), x -> x.from(0, 0), x -> x.lost(0), x -> x.healable(), x -> text(x, "a").finds(0),
            x -> text(x, "a").last(3), x -> text(x, "a").many(), x -> text(x, "?").fits(0),
            x -> text(x, "A").folds(0), x -> x.pair(0), x -> x.nested(), x -> x.before(1), x -> x.word(0),
            x -> x.words(), x -> x.rows(5), x -> x.tally('a'), x -> x.alike(0, 1), x -> x.sum(0, 2),
            x -> x.differs(1), x -> x.years(5, 40), x -> x.count(0), x -> x.longest() + x.row(0)};
        Call[] others = {x -> bit(x.keep(0)), x -> x.sign(0x61626364), x -> bit(x.end(0)), x -> x.inserts(2),
            x -> x.puts(2, 0), x -> x.heals(), x -> x.day(), x -> text(x, "hhh").day()};
        Call[] refused = {x -> text(x, "a" + (char) 0).opens(1), x -> text(x, "a").opens(0),
            x -> text(x, "a").opens(21), x -> text(x, "a").inserts(99), x -> x.type(99, 'a'), x -> x.type(2, 0),
            x -> x.type(2, 128), x -> x.takes(0, 99), x -> x.takes(0, 0), x -> text(x, "a").puts(0, 99),
            x -> x.lays(0, 1, 99), x -> x.lays(0, 0, 0), x -> x.moves(0, 2, 1), x -> x.moves(0, 0, 0), x -> x.cuts(9),
            x -> x.indents(0, 9, 1), x -> x.indents(0, 0, 0), x -> x.marks(8, 0, 0), x -> x.marks(0, 0, 2),
            x -> x.marks(0, 99, 0), x -> text(x, "x").day(), x -> text(x, "d999901").day(), x -> text(x, "r").day(),
            x -> x.redo(), x -> bit(x.again(0)), x -> bit(x.again(3)), x -> bit(x.keep(3)), x -> bit(x.end(99))};
        for (Call[] calls : new Call[][] {questions, others, refused}) {
            for (int i = 0; i < calls.length; i++) {
                String which = "call " + i + " of " + calls.length + ": ";
                due(which + editsMore(calls[i]), which + 0);
            }
        }
    }

    private static void lines(Edges edges) {
        edges.edge("LINES 0, 1, .. end with a BREAK each (that belongs to it), but the last one; there is one at "
            + "least.", () -> {
            due(new PieceBook().count(1), 1);
            due(open("a").count(1), 1);
            due(open("\n").count(1), 2);
            PieceBook x = open("a\n");
            due(x.count(1), 2);
            due(x.line(1), 0);
            due(x.line(2), 1);
            due(x.starts(1), 2);
            due(x.cuts(0), 2);
            due(x.count(1), 1);
        });
    }

    private static void rowsAndQuestions(Edges edges) {
        edges.edge("ROW: numbers told last by a call that says so.", () -> {
            Call[] silent = {x -> x.sign(0), x -> bit(x.end(0)), x -> x.store(0, 0), x -> text(x, "z").inserts(0),
                x -> x.type(0, 'z'), x -> x.takes(0, 1), x -> x.puts(0, 1), x -> x.lays(0, 1, 0),
                x -> x.moves(0, 1, 3), x -> x.cuts(0), x -> x.indents(0, 0, 1), x -> x.heals(), x -> x.marks(0, 0, 0),
                x -> x.undo(), x -> x.redo(), x -> x.at(0), x -> x.mark(0), x -> x.piece(0, 0), x -> bit(x.keep(0)),
                x -> bit(x.again(0)), x -> text(x, "ab").opens(1), x -> x.count(0), x -> x.row(0)};
            PieceBook x = open("abcd\nef");
            due(row(x), "");
            x.reads(0, 3);
            for (Call call : silent) {
                due(bit(call.of(x) >= 0), 1);
                due(row(x), "97 98 99");
            }
            x.line(1);
            due(row(x), "1");
        });
        edges.edge("Sets are bits.", () -> {
            PieceBook x = open("ab");
            x.marks(0, 1, 0);
            x.marks(7, 2, 0);
            due(x.count(6), 129);
            due(x.between(1, 1), 1);
            due(x.between(2, 2), 128);
        });
        edges.edge("Questions (all calls from the third part on "
            + "but keep() and again(), store(), too) change nothing.", () -> {
            Call[] questions = {x -> x.store(1, 2), x -> x.at(3), x -> x.reads(0, 16), x -> x.line(5),
                x -> x.starts(1), x -> x.place(1, 3), x -> x.longest(), x -> x.mark(1), x -> x.between(0, 99),
                x -> x.piece(1, 3), x -> x.shows(6), x -> x.from(0, 1), x -> x.lost(1), x -> x.healable(),
                x -> x.pair(2), x -> x.nested(), x -> x.before(20), x -> x.word(5), x -> x.words(), x -> x.rows(4),
                x -> x.tally('a'), x -> x.alike(0, 19), x -> x.sum(0, 9), x -> x.differs(2), x -> x.years(3, 40),
                x -> x.count(1), x -> x.row(1)};
            for (Call call : questions) {
                Learnt.dueQuestion(null, call);
            }
            Call[] searches = {x -> x.finds(0), x -> x.last(20), x -> x.many(), x -> x.fits(0), x -> x.folds(0)};
            for (Call call : searches) {
                Learnt.dueQuestion("o", call);
            }
        });
    }

    private static void refusals(Edges edges) {
        edges.edge("Refused calls answer NONE, or false, and change nothing but THE TEXT, which a call that reads it "
            + "empties (opens(), inserts(), puts(), day(), those of search).", () -> {
            Call[] refused = {x -> x.type(0, 0), x -> x.takes(0, 0), x -> x.lays(0, 0, 0), x -> x.moves(0, 0, 0),
                x -> x.cuts(99), x -> x.indents(0, 0, 9), x -> bit(x.end(-1)) - 1, x -> bit(x.keep(3)) - 1,
                x -> bit(x.again(1)) - 1, x -> x.at(99), x -> x.reads(99, 1), x -> x.line(99), x -> x.starts(99),
                x -> x.place(99, 0), x -> x.mark(8), x -> x.between(1, 0), x -> x.shows(99), x -> x.from(2, 0),
                x -> x.lost(2), x -> x.pair(99), x -> x.before(99), x -> x.word(99), x -> x.rows(0), x -> x.tally(0),
                x -> x.alike(0, 99), x -> x.sum(0, -1), x -> x.differs(99), x -> x.years(0, 0)};
            for (Call call : refused) {
                Learnt.dueNoTrace(call, -1);
            }
            Learnt.dueNoTrace(Learnt::typed, null, x -> x.redo(), -1);
            String none = (char) 0 + "ab";
            Call[] reading = {x -> x.opens(1), x -> x.inserts(0), x -> x.puts(0, 1), x -> x.day()};
            for (Call call : reading) {
                Learnt.dueNoTrace(none, call, -1);
            }
            Call[] searches = {x -> x.finds(99), x -> x.last(99), x -> x.fits(99), x -> x.folds(99)};
            for (Call call : searches) {
                Learnt.dueNoTrace("ab", call, -1);
            }
            Learnt.dueNoTrace("", x -> x.many(), -100);
            PieceBook full = text(new PieceBook(), "a".repeat(77));
            due(full.sign(0x61616161), -1);
            due(full.count(8), 77);
        });
        edges.edge("NONE comes ahead of other answers below 0, if not said otherwise, of these the one that is told "
            + "first", EdgesOfTerms::whichAnswerFirst);
        edges.edge("the ROW stays with each answer below 0.", EdgesOfTerms::rowStays);
    }

    private static void whichAnswerFirst() {
        PieceBook x = open("a(b\n");
        due(x.type(99, 0), -1);
        due(x.takes(99, 0), -1);
        due(x.takes(-1, 99), -1);
        due(x.lays(99, 0, 99), -1);
        due(x.lays(99, 99, -1), -1);
        due(x.lays(-1, 99, 99), -1);
        due(x.moves(99, 0, 99), -1);
        due(x.moves(99, 99, -1), -1);
        due(x.moves(-1, 99, 99), -1);
        due(x.indents(9, 1, 0), -1);
        due(x.marks(8, 99, 0), -3);
        due(x.marks(0, 99, 2), -3);
        due(text(x, "zz").finds(99), -1);
        due(text(x, "zz").last(99), -1);
        due(text(x, "zz").fits(99), -1);
        due(text(x, "zz").folds(99), -1);
        due(x.sum(-1, 99), -1);
        due(x.sum(99, -1), -1);
        due(x.word(99), -1);
        due(x.pair(99), -1);
        PieceBook empty = new PieceBook();
        due(empty.cuts(1), -1);
        due(empty.cuts(-1), -1);
        due(empty.cuts(0), -2);
        PieceBook full = fullAndSpent();
        due(full.type(0, 0), -1);
        due(full.type(3001, 'a'), -2);
        due(full.type(0, 'a'), -3);
        due(full.lays(0, 0, 3001), -1);
        due(full.lays(0, 3000, 3001), -2);
        due(full.lays(0, 3000, 3000), -3);
        due(full.indents(0, 3001, 9), -1);
        due(full.indents(0, 3001, 8), -2);
        due(full.indents(1, 0, 8), -2);
        due(full.indents(0, 0, 1), -3);
        due(filled(6000).indents(0, 0, 1), -4);
        due(filled(6000).type(0, 'a'), -4);
    }

    private static void rowStays() {
        String none = (char) 0 + "";
        Call[] below = {x -> text(x, "a".repeat(80)).sign(1), x -> text(x, none).opens(1), x -> text(x, "a").opens(0),
            x -> text(x, none).inserts(0), x -> text(x, "a").inserts(99), x -> x.type(0, 0), x -> x.type(99, 'a'),
            x -> x.takes(0, 0), x -> x.takes(0, 99), x -> text(x, none).puts(0, 0), x -> x.puts(0, 99),
            x -> x.lays(0, 0, 0), x -> x.lays(0, 99, 0), x -> x.moves(0, 0, 0), x -> x.moves(0, 99, 0),
            x -> x.cuts(99), x -> x.indents(0, 0, 0), x -> x.indents(0, 99, 1), x -> x.marks(8, 0, 0),
            x -> x.marks(0, 99, 0), x -> x.marks(0, -1, 0), x -> text(x, "hx").day(), x -> x.undo(), x -> x.redo(),
            x -> x.at(99), x -> x.reads(99, 1), x -> x.reads(0, 17), x -> x.line(99), x -> x.starts(99),
            x -> x.place(99, 0), x -> x.place(0, -1), x -> x.mark(8), x -> x.mark(0), x -> x.between(1, 0),
            x -> x.shows(99), x -> x.from(0, 99), x -> x.from(2, 0), x -> x.lost(2), x -> text(x, "zz").finds(0),
            x -> text(x, "a").finds(99), x -> x.finds(0), x -> text(x, "zz").last(0), x -> text(x, "a").last(99),
            x -> x.last(0), x -> x.many(), x -> text(x, "zz").fits(0), x -> text(x, "a").fits(99), x -> x.fits(0),
            x -> text(x, "zz").folds(0), x -> text(x, "a").folds(99), x -> x.folds(0), x -> x.pair(99),
            x -> x.pair(0), x -> x.pair(2), x -> nestedOfNone(x), x -> x.before(99), x -> x.word(99), x -> x.word(3),
            x -> x.rows(0), x -> x.rows(81), x -> x.tally(0), x -> x.alike(0, 99), x -> x.sum(-1, 0),
            x -> x.sum(0, 99), x -> x.differs(99), x -> x.years(1, 0), x -> x.years(1, 41), x -> x.count(9)};
        for (int i = 0; i < below.length; i++) {
            PieceBook x = open("ab(\n,");
            x.reads(0, 4);
            due("call " + i + ": " + bit(below[i].of(x) < 0), "call " + i + ": 1");
            due(row(x), "97 98 40 10");
        }
    }

    private static long nestedOfNone(PieceBook x) {
        x.takes(2, 1);
        return x.nested();
    }

    private static void searched(Edges edges) {
        Call[] searches = {x -> x.finds(0), x -> x.last(4), x -> x.many(), x -> x.fits(0), x -> x.folds(0)};
        edges.edge("search (THE TEXT tells what is sought;", () -> {
            String book = "abcabcxc";
            for (String sought : new String[] {"a", "b", "bc", "cab", "abcabcx"}) {
                int first = book.indexOf(sought);
                int places = first == book.lastIndexOf(sought) ? 1 : 2;
                long[] due = {first, book.lastIndexOf(sought, 4), places, first, first};
                for (int i = 0; i < searches.length; i++) {
                    PieceBook x = text(open(book), sought);
                    due(searches[i].of(x), due[i]);
                    due(x.count(8), 0);
                }
            }
        });
        edges.edge("1 sign or more;", () -> {
            long[] due = {1, 1, 1, 1, 1};
            for (int i = 0; i < searches.length; i++) {
                due(searches[i].of(text(open("abcd"), "b")), due[i]);
                due(searches[i].of(text(openTimes("a".repeat(80), 1), "a".repeat(80))), i == 2 ? 1 : 0);
            }
        });
        edges.edge("-100: an empty one, ahead of all;", () -> {
            Call[] nowhere = {x -> x.finds(-1), x -> x.finds(0), x -> x.finds(9), x -> x.last(-1), x -> x.last(0),
                x -> x.last(9), x -> x.many(), x -> x.fits(-1), x -> x.fits(0), x -> x.fits(9), x -> x.folds(-1),
                x -> x.folds(0), x -> x.folds(9)};
            for (Call call : nowhere) {
                due(call.of(open("abcd")), -100);
                due(call.of(new PieceBook()), -100);
            }
        });
        edges.edge("signs that are none are never found", () -> {
            for (int v : new int[] {0, 128, 193, 225, 255}) {
                for (int i = 0; i < searches.length; i++) {
                    due(searches[i].of(text(open("Aab" + (char) 127), (char) v + "")), i == 2 ? 0 : -2);
                    due(searches[i].of(text(open("Aab" + (char) 127), "b" + (char) v)), i == 2 ? 0 : -2);
                }
            }
        });
    }
}
