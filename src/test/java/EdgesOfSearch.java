/** Boundaries that promises 32 to 36 name: search. */
final class EdgesOfSearch extends Asking {
    private static final int[] NO_PLACES = {25, 26, Integer.MAX_VALUE, -1, Integer.MIN_VALUE};

    private EdgesOfSearch() {
    }

    static void tell(Edges edges) {
        finds(edges);
        last(edges);
        many(edges);
        fits(edges);
        folds(edges);
    }

    /** A book abcabc with an X of the added between: three pieces. */
    private static PieceBook threePieces() {
        PieceBook x = open("abcabc");
        put(x, 3, "X");
        return x;
    }

    private static void finds(Edges edges) {
        edges.ofPromise(32);
        edges.edge("The first place, from p on, where THE TEXT stands in THE BOOK: it; the ROW: in how many PIECES "
            + "it lies there.", () -> {
            PieceBook x = threePieces();
            due(text(x, "abc").finds(0) + ": " + row(x), "0: 1");
            due(text(x, "abc").finds(1) + ": " + row(x), "4: 1");
            due(text(x, "abc").finds(4) + ": " + row(x), "4: 1");
            due(text(x, "c").finds(6) + ": " + row(x), "6: 1");
            due(text(x, "X").finds(3) + ": " + row(x), "3: 1");
            due(text(x, "cX").finds(0) + ": " + row(x), "2: 2");
            due(text(x, "Xa").finds(0) + ": " + row(x), "3: 2");
            due(text(x, "abcXabc").finds(0) + ": " + row(x), "0: 3");
        });
        edges.edge("-2: nowhere;", () -> {
            due(text(threePieces(), "abc").finds(5), -2);
            due(text(threePieces(), "c").finds(7), -2);
            due(text(threePieces(), "abcXabcx").finds(0), -2);
            due(text(threePieces(), "x").finds(0), -2);
            due(text(new PieceBook(), "a").finds(0), -2);
            due(text(open("aab"), "aba").finds(0), -2);
            Learnt.dueNoTrace("zz", x -> x.finds(0), -2);
        });
        edges.edge("NONE: no such place.", () -> {
            for (int p : NO_PLACES) {
                Learnt.dueNoTrace("a", x -> x.finds(p), -1);
            }
            due(text(Learnt.typed(), "a").finds(24), -2);
            due(text(new PieceBook(), "a").finds(1), -1);
        });
    }

    private static void last(Edges edges) {
        edges.ofPromise(33);
        edges.edge("The last place, up to p, where THE TEXT stands (begins): it; the ROW: as finds().", () -> {
            PieceBook x = threePieces();
            due(text(x, "abc").last(7) + ": " + row(x), "4: 1");
            due(text(x, "abc").last(4) + ": " + row(x), "4: 1");
            due(text(x, "abc").last(3) + ": " + row(x), "0: 1");
            due(text(x, "abc").last(0) + ": " + row(x), "0: 1");
            due(text(x, "c").last(7) + ": " + row(x), "6: 1");
            due(text(x, "cXa").last(2) + ": " + row(x), "2: 3");
            due(text(x, "abcXabc").last(0) + ": " + row(x), "0: 3");
            PieceBook over = open("aaa");
            due(text(over, "aa").last(3), 1);
            due(text(over, "aa").last(0), 0);
        });
        edges.edge("-2: nowhere;", () -> {
            due(text(threePieces(), "c").last(1), -2);
            due(text(threePieces(), "Xa").last(2), -2);
            due(text(threePieces(), "abcXabcx").last(7), -2);
            due(text(new PieceBook(), "a").last(0), -2);
            Learnt.dueNoTrace("zz", x -> x.last(24), -2);
        });
        edges.edge("NONE: no such place.", () -> {
            for (int p : NO_PLACES) {
                Learnt.dueNoTrace("a", x -> x.last(p), -1);
            }
            due(text(Learnt.typed(), "B").last(24), 23);
            due(text(new PieceBook(), "a").last(1), -1);
        });
    }

    private static void many(Edges edges) {
        edges.ofPromise(34);
        edges.edge("At how many places THE TEXT stands (they may lie over one another): at how many;", () -> {
            due(text(open("aaaa"), "aa").many(), 3);
            due(text(open("aaaa"), "aaaa").many(), 1);
            due(text(open("aaaa"), "aaaaa").many(), 0);
            due(text(open("abab"), "b").many(), 2);
            due(text(new PieceBook(), "a").many(), 0);
            due(text(full(), "a").many(), 3000);
            due(text(full(), "a".repeat(80)).many(), 2921);
        });
        edges.edge("the ROW: at how many of them in two PIECES or more, then how many at most lie beside one another "
            + "without lying over one another, from the first one on (each time the next one that does not).", () -> {
            PieceBook x = open("aaaaa");
            due(text(x, "aa").many() + ": " + row(x), "4: 0 2");
            put(x, 2, "a");
            due(text(x, "aa").many() + ": " + row(x), "5: 2 3");
            due(text(x, "aaaa").many() + ": " + row(x), "3: 3 1");
            due(text(x, "a").many() + ": " + row(x), "6: 0 6");
            due(text(x, "b").many() + ": " + row(x), "0: 0 0");
            PieceBook y = open("ababab aba");
            due(text(y, "aba").many() + ": " + row(y), "3: 0 2");
            // Those that touch do not lie over one another.
            due(text(open("abab"), "ab").many(), 2);
            PieceBook touching = open("abab");
            due(text(touching, "ab").many() + ": " + row(touching), "2: 0 2");
        });
    }

    private static void fits(Edges edges) {
        edges.ofPromise(35);
        edges.edge("The first place, from p on, where THE TEXT stands, ? being any SIGN but a BREAK, # a digit 0 .. "
            + "9: it; the ROW: as finds().", () -> {
            PieceBook signs = open((char) 1 + "\n" + (char) 127 + "?");
            int[] due = {0, 2, 2, 3, -2};
            for (int p = 0; p <= 4; p++) {
                due(text(signs, "?").fits(p), due[p]);
            }
            PieceBook digits = open("/0:9#");
            due(text(digits, "#").fits(0), 1);
            due(text(digits, "#").fits(2), 3);
            due(text(digits, "#").fits(4), -2);
            due(text(digits, "##").fits(0), -2);
            due(text(digits, "?#").fits(0), 0);
            due(text(digits, "\n").fits(0), -2);
            PieceBook x = threePieces();
            due(text(x, "c?a").fits(0) + ": " + row(x), "2: 3");
            due(text(x, "???????").fits(0) + ": " + row(x), "0: 3");
            due(text(x, "abc").fits(1) + ": " + row(x), "4: 1");
            due(text(x, "x").fits(0), -2);
            // Neither is any but in fits().
            due(text(x, "?").finds(0), -2);
            due(text(x, "?").last(7), -2);
            due(text(x, "?").many(), 0);
            due(text(x, "?").folds(0), -2);
        });
        edges.edge("-2: nowhere;", () -> {
            due(text(threePieces(), "????????").fits(0), -2);
            due(text(threePieces(), "?").fits(7), -2);
            due(text(new PieceBook(), "?").fits(0), -2);
            Learnt.dueNoTrace("##", x -> x.fits(0), -2);
        });
        edges.edge("NONE: no such place.", () -> {
            for (int p : NO_PLACES) {
                Learnt.dueNoTrace("?", x -> x.fits(p), -1);
            }
            due(text(new PieceBook(), "?").fits(1), -1);
        });
    }

    private static void folds(Edges edges) {
        edges.ofPromise(36);
        edges.edge("The first place, from p on, where THE TEXT stands, letters A .. Z being as a .. z in both: it; "
            + "the ROW: as finds().", () -> {
            PieceBook x = open("AZaz");
            due(text(x, "az").folds(0), 0);
            due(text(x, "AZ").folds(1), 2);
            due(text(x, "zA").folds(0), 1);
            // Signs next to the letters have no other.
            for (String pair : new String[] {"@`", "[{", "\\|", "]}", "^~", "0P", "\n*"}) {
                due(text(open(pair.substring(0, 1)), pair.substring(1)).folds(0), -2);
                due(text(open(pair.substring(1)), pair.substring(0, 1)).folds(0), -2);
                due(text(open(pair), pair).folds(0), 0);
            }
            PieceBook three = threePieces();
            due(text(three, "CxA").folds(0) + ": " + row(three), "2: 3");
            due(text(three, "ABC").folds(1) + ": " + row(three), "4: 1");
            due(text(three, "ABC").finds(0), -2);
        });
        edges.edge("-2: nowhere;", () -> {
            due(text(threePieces(), "abcxabcx").folds(0), -2);
            due(text(threePieces(), "x").folds(4), -2);
            due(text(new PieceBook(), "a").folds(0), -2);
            Learnt.dueNoTrace("zz", x -> x.folds(0), -2);
        });
        edges.edge("NONE: no such place.", () -> {
            for (int p : NO_PLACES) {
                Learnt.dueNoTrace("A", x -> x.folds(p), -1);
            }
            due(text(new PieceBook(), "a").folds(1), -1);
        });
    }
}
