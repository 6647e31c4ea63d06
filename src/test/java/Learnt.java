/**
 * All that can be learnt of a book, also by calls that change it: what can be undone and done again, what is kept,
 * whether marks stick, what the text is, whether a type() would belong to the latest edit. So two books that were
 * made in different ways can be told apart, if anything tells them apart.
 */
final class Learnt extends Asking {
    private Learnt() {
    }

    /** A book with edits that can be undone, marks, and two that are kept; the latest edit is a type(). */
    static PieceBook typed() {
        PieceBook x = open("ab\n(c d)\nx1 AB");
        put(x, 4, "one two");
        x.keep(0);
        x.lays(0, 3, 20);
        x.marks(0, 2, 0);
        x.marks(1, 4, 1);
        x.marks(2, 24, 1);
        x.keep(2);
        x.takes(1, 1);
        x.reads(3, 5);
        x.type(4, 'q');
        x.sign(0x68756872);
        return x;
    }

    /** The same with two edits undone, and a mark set since. */
    static PieceBook undone() {
        PieceBook x = typed();
        x.undo();
        x.undo();
        x.marks(5, 1, 1);
        return x;
    }

    /** The place at which a type() belongs to the latest edit of typed(). */
    static final int TYPED_BEHIND = 5;

    static String of(Maker maker) {
        StringBuilder b = new StringBuilder();
        b.append(look(maker.make())).append('\n');
        b.append("undone ").append(undoneAll(maker.make())).append('\n');
        b.append("done again ").append(redoneAll(maker.make())).append('\n');
        b.append("kept ").append(kept(maker.make())).append('\n');
        b.append("stick ").append(stick(maker.make())).append('\n');
        b.append("text ").append(textOf(maker.make())).append('\n');
        b.append("typed ").append(typedOn(maker.make()));
        return b.toString();
    }

    /** What questions tell. */
    static String look(PieceBook x) {
        StringBuilder b = new StringBuilder(row(x)).append(';');
        for (int what = 0; what < 9; what++) {
            b.append(' ').append(x.count(what));
        }
        b.append("; ").append(pieces(x)).append("; ").append(marked(x)).append(';');
        for (int what = 0; what < 3; what++) {
            b.append(' ').append(x.store(0, what)).append(' ').append(x.store(1, what));
        }
        x.sum(0, x.count(0));
        return b.append("; ").append(x.row(0)).toString();
    }

    private static String undoneAll(PieceBook x) {
        StringBuilder b = new StringBuilder();
        for (int i = 0; i < 4 && x.undo() >= 0; i++) {
            b.append(look(x)).append(" | ");
        }
        return b.toString();
    }

    private static String redoneAll(PieceBook x) {
        StringBuilder b = new StringBuilder();
        for (int i = 0; i < 4 && x.redo() >= 0; i++) {
            b.append(look(x)).append(" | ");
        }
        return b.toString();
    }

    private static String kept(PieceBook x) {
        StringBuilder b = new StringBuilder();
        for (int i = 0; i < 3; i++) {
            b.append(x.again(i) ? look(x) : "-").append(" | ");
        }
        return b.toString();
    }

    private static String stick(PieceBook x) {
        StringBuilder b = new StringBuilder();
        for (int i = 0; i < 8; i++) {
            int p = x.mark(i);
            if (p >= 0 && x.type(p, 's') > 0) {
                b.append(marked(x)).append(" | ");
            }
        }
        return b.toString();
    }

    private static String textOf(PieceBook x) {
        x.takes(0, Math.max(0, x.count(0) - 2900));
        return x.inserts(0) + " " + look(x);
    }

    private static String typedOn(PieceBook x) {
        return x.type(TYPED_BEHIND, 't') + " " + x.count(4) + " " + pieces(x);
    }

    // ---- calls that should change nothing

    /** The call answers so and changes nothing, as refused ones do, but the text, if it reads it (one is told then). */
    static void dueNoTrace(Maker maker, String text, Call call, long answer) {
        due(call.of(withText(maker, text)), answer);
        String with = of(() -> {
            PieceBook x = withText(maker, text);
            call.of(x);
            return x;
        });
        String without = of(() -> {
            PieceBook x = maker.make();
            if (text != null) {
                x.end(0);
            }
            return x;
        });
        due(with, without);
    }

    /** The same on both small books; for a call that reads no text. */
    static void dueNoTrace(Call call, long answer) {
        dueNoTrace(Learnt::typed, null, call, answer);
        dueNoTrace(Learnt::undone, null, call, answer);
    }

    static void dueNoTrace(String text, Call call, long answer) {
        dueNoTrace(Learnt::typed, text, call, answer);
        dueNoTrace(Learnt::undone, text, call, answer);
    }

    /** The call is a question: it changes nothing but the row, and the text, if it reads it (one is told then). */
    static void dueQuestion(String text, Call call) {
        for (Maker maker : new Maker[] {Learnt::typed, Learnt::undone}) {
            String with = of(() -> {
                PieceBook x = withText(maker, text);
                call.of(x);
                x.longest();
                return x;
            });
            String without = of(() -> {
                PieceBook x = maker.make();
                if (text != null) {
                    x.end(0);
                }
                x.longest();
                return x;
            });
            due(with, without);
        }
    }

    private static PieceBook withText(Maker maker, String text) {
        PieceBook x = maker.make();
        return text == null ? x : text(x, text);
    }
}
