/** Boundaries that promises 46 to 51 name: what it was, what would be done, what is kept, counts and the row. */
final class EdgesOfKept extends Asking {
    private static final int MOST = Integer.MAX_VALUE;
    private static final int LEAST = Integer.MIN_VALUE;

    private EdgesOfKept() {
    }

    static void tell(Edges edges) {
        differs(edges);
        years(edges);
        yearsRefused(edges);
        draws(edges);
        keep(edges);
        again(edges);
        count(edges);
        row(edges);
    }

    private static void differs(Edges edges) {
        edges.ofPromise(46);
        edges.edge("How THE BOOK differs from what it was k EDITS ago (0 .. as many as can be undone): how many "
            + "SIGNS at its beginning are as they were;", () -> {
            PieceBook x = open("abc");
            due(x.differs(0) + ": " + row(x), "3: 0 0");
            due(x.differs(1), -1);
            for (int i = 0; i < 31; i++) {
                x.type(0, 'x');
            }
            due(x.differs(30), 4 - 3);
            due(row(x), "30 0");
            due(x.differs(31), -1);
            x.undo();
            due(x.differs(30), -1);
            due(x.differs(29) + ": " + row(x), "1: 29 0");
            x.keep(0);
            x.again(0);
            due(x.differs(0) + ": " + row(x), "33: 0 0");
            due(x.differs(1), -1);
            // What marks did is no matter; nor what was done again.
            PieceBook y = open("ab");
            y.takes(1, 1);
            y.undo();
            y.redo();
            due(y.differs(1) + ": " + row(y), "1: 0 1");
            due(new PieceBook().differs(0), 0);
        });
        edges.edge("the ROW: how many behind these are other ones now, how many were then in their place (SIGNS at "
            + "the end that are as they were, as many as there are behind those at the beginning, aside).", () -> {
            String[] now = {"abXcd", "ab", "aXd", "xyz", "abcdabcd", "", "abcd", "abccd", "abd"};
            String[] due = {"2: 1 0", "2: 0 2", "1: 1 2", "0: 3 4", "4: 4 0", "0: 0 4", "4: 0 0", "3: 1 0", "2: 0 1"};
            for (int i = 0; i < now.length; i++) {
                PieceBook x = open("abcd");
                text(x, now[i]).puts(0, 4);
                due(x.differs(1) + ": " + row(x), due[i]);
            }
            // The end counts only behind the beginning: signs alike are not counted twice.
            PieceBook more = open("aaa");
            more.lays(0, 1, 0);
            due(more.differs(1) + ": " + row(more), "3: 1 0");
            PieceBook fewer = open("aaa");
            fewer.takes(0, 2);
            due(fewer.differs(1) + ": " + row(fewer), "1: 0 2");
        });
        edges.edge("NONE: another k.", () -> {
            for (int k : new int[] {5, 31, MOST, -1, LEAST}) {
                Learnt.dueNoTrace(x -> x.differs(k), -1);
            }
            due(bit(Learnt.typed().differs(4) >= 0), 1);
            due(Learnt.undone().differs(3), -1);
        });
    }

    /** The answer and the row of years(), by the calls themselves. */
    private static String yearsByHand(PieceBook x, int seed, int n) {
        int[] r = {seed};
        for (int i = 0; i < n; i++) {
            int size = x.count(0);
            int act = draw(r, 4);
            if (act < 2) {
                int v = draw(r, 26) + 97;
                x.type(draw(r, size + 1), v);
            } else if (size > 0) {
                int p = draw(r, size);
                if (act == 2) {
                    x.takes(p, 1);
                } else {
                    x.lays(p, 1, 0);
                }
            }
        }
        x.sum(0, x.count(0));
        return x.count(0) + ": " + x.row(0) + " " + x.count(2) + " " + x.count(3);
    }

    /** A DRAW as the document tells it, by longs: so that the wrapping round and the sign are plain. */
    private static int draw(int[] r, int n) {
        long next = r[0] * 1103515245L + 12345L;
        r[0] = (int) next;
        long withoutSign = next & 0xFFFFFFFFL;
        return (int) (withoutSign / 65536 % n);
    }

    private static String yearsOf(PieceBook x, int seed, int n) {
        return x.years(seed, n) + ": " + row(x);
    }

    private static void years(Edges edges) {
        edges.ofPromise(47);
        edges.edge("n times (1 .. 40) what would be done:", () -> {
            for (int seed = -3; seed < 8; seed++) {
                for (int n : new int[] {1, 2, 39, 40}) {
                    due(yearsOf(Learnt.typed(), seed, n), yearsByHand(Learnt.typed(), seed, n));
                    due(yearsOf(new PieceBook(), seed, n), yearsByHand(new PieceBook(), seed, n));
                }
                int ofSeed = seed;
                Learnt.dueQuestion(null, x -> x.years(ofSeed, 40));
            }
        });
        edges.edge("a DRAW of 4 tells: 0, 1: type() of a DRAW of 26 and 97 at a DRAW of as many SIGNS as there are, "
            + "and 1 more;", () -> {
            // Of an empty book each place drawn is 0: the answer tells the letter. Of a book of one sign: two places.
            for (int seed = 0; seed < 40; seed++) {
                int[] r = {seed};
                if (draw(r, 4) > 1) {
                    continue;
                }
                int letter = 97 + draw(r, 26);
                due(yearsOf(new PieceBook(), seed, 1), "1: " + (7 * 31 + letter) + " 1 1");
                boolean ahead = draw(r, 2) == 0;
                int first = ahead ? letter : 10;
                int second = ahead ? 10 : letter;
                due(yearsOf(open("\n"), seed, 1), "2: " + ((7 * 31 + first) * 31 + second) + " 2 1");
            }
        });
        edges.edge("2: takes() of 1 at a DRAW of as many SIGNS as there are; 3: lays() of 1 from a DRAW of as many "
            + "as there are, at 0", () -> {
            int taken = seedOf(2);
            int laid = seedOf(3);
            due(yearsOf(open("a"), taken, 1), "0: 7 0 0");
            due(yearsOf(open("a"), laid, 1), "2: " + ((7 * 31 + 97) * 31 + 97) + " 2 0");
            due(yearsOf(open("abcdefg"), taken, 1), yearsByHand(open("abcdefg"), taken, 1));
            due(yearsOf(open("abcdefg"), laid, 1), yearsByHand(open("abcdefg"), laid, 1));
        });
        edges.edge("(2, 3: nothing, no DRAW more, if THE BOOK is empty;", () -> {
            // Two draws, of which neither types: two years; and one that types behind one that does not.
            int seed = 0;
            while (!drawsActs(seed, 2, 4, 2, 4)) {
                seed++;
            }
            due(yearsOf(new PieceBook(), seed, 2), "0: 7 0 0");
            int mixed = 0;
            while (!drawsActs(mixed, 2, 4, 0, 2)) {
                mixed++;
            }
            int[] r = {mixed};
            draw(r, 4);
            draw(r, 4);
            due(yearsOf(new PieceBook(), mixed, 2), "1: " + (7 * 31 + 97 + draw(r, 26)) + " 1 1");
        });
    }

    /** The first seed of which a draw of 4 is this act. */
    private static int seedOf(int act) {
        int seed = 0;
        while (draw(new int[] {seed}, 4) != act) {
            seed++;
        }
        return seed;
    }

    private static boolean drawsActs(int seed, int first, int firstBehind, int second, int secondBehind) {
        int[] r = {seed};
        int a = draw(r, 4);
        int b = draw(r, 4);
        return a >= first && a < firstBehind && b >= second && b < secondBehind;
    }

    private static void yearsRefused(Edges edges) {
        edges.edge("what is refused is not done): how many SIGNS THE BOOK would have; the ROW: the sum() of all of "
            + "it then, how many PIECES, how many SIGNS THE ADDED then.", () -> {
            int typed = seedOf(0);
            int taken = seedOf(2);
            int laid = seedOf(3);
            PieceBook full = full();
            due(full.years(typed, 1), 3000);
            due(full.row(1) + " " + full.row(2), "2 0");
            due(full.years(laid, 1), 3000);
            due(full.row(1) + " " + full.row(2), "2 0");
            due(full.years(taken, 1), 2999);
            PieceBook spent = filled(6000);
            due(spent.years(typed, 1), 800);
            due(spent.row(2), 6000);
            due(spent.years(laid, 1), 801);
            due(filled(5999).years(typed, 1), 801);
            // Draws of what is refused are drawn all the same.
            for (int seed = 0; seed < 6; seed++) {
                due(yearsOf(full(), seed, 40), yearsByHand(full(), seed, 40));
                due(yearsOf(filled(5998), seed, 40), yearsByHand(filled(5998), seed, 40));
                due(yearsOf(fullAndSpent(), seed, 40), yearsByHand(fullAndSpent(), seed, 40));
            }
            // What was added for it is not: the next time it begins where it did.
            PieceBook twice = filled(5990);
            due(yearsOf(twice, 3, 40), yearsOf(twice, 3, 40));
            due(twice.count(3), 5990);
        });
        edges.edge("NONE: another n.", () -> {
            for (int n : new int[] {0, -1, 41, MOST, LEAST}) {
                Learnt.dueNoTrace(x -> x.years(1, n), -1);
            }
        });
    }

    private static void draws(Edges edges) {
        edges.edge("A DRAW of n: R = R times 1103515245 + 12345 (as ints; R is seed at first), (R without sign, by "
            + "65536) % n.", () -> {
            for (int seed : new int[] {0, 1, -1, 2, 65536, MOST, LEAST, LEAST + 1, 123456789}) {
                due(yearsOf(open("abcdefghij"), seed, 40), yearsByHand(open("abcdefghij"), seed, 40));
            }
            // Told by hand: of seed 0 the first draw is 12345 / 65536, 0 of 4; the second R is -740551042, without sign
            // 3554416254, by 65536 54236, 0 of 26: a; the third, of 1, is 0.
            due(yearsOf(new PieceBook(), 0, 1), "1: " + (7 * 31 + 97) + " 1 1");
        });
    }

    private static void keep(Edges edges) {
        edges.ofPromise(48);
        edges.edge("THE BOOK and MARKS are kept under a number 0 .. 2: true.", () -> {
            PieceBook x = open("abc");
            for (int i = 0; i < 3; i++) {
                x.marks(i, Math.min(i, 1), 0);
                due(x.keep(i), true);
                x.takes(0, 1);
            }
            due(x.count(0), 0);
            due(x.count(4), 3);
            String[] due = {"abc", "bc", "c"};
            String[] marked = {"0@0", "0@0 1@1", "0@0 1@0 2@1"};
            x.marks(2, -1, 0);
            for (int i = 0; i < 3; i++) {
                x.again(i);
                due(shown(x), due[i]);
                due(marked(x), marked[i]);
            }
            // An empty book can be kept, and one kept anew is the latter.
            PieceBook empty = new PieceBook();
            due(empty.keep(0), true);
            empty.type(0, 'a');
            due(empty.again(0), true);
            due(empty.count(0), 0);
            empty.type(0, 'b');
            empty.keep(0);
            empty.takes(0, 1);
            empty.again(0);
            due(shown(empty), "b");
        });
        edges.edge("Refused: others.", () -> {
            for (int i : new int[] {3, 4, MOST, -1, LEAST}) {
                Learnt.dueNoTrace(x -> bit(x.keep(i)), 0);
            }
        });
    }

    private static void again(Edges edges) {
        edges.ofPromise(49);
        edges.edge("THE BOOK and MARKS are as they were kept under "
            + "a number; no EDITS can be undone or done again.", () -> {
            PieceBook x = Learnt.undone();
            due(x.count(4), 2);
            due(x.count(5), 2);
            due(x.again(2), true);
            due(x.count(4), 0);
            due(x.count(5), 0);
            due(x.undo(), -1);
            due(x.redo(), -1);
            due(x.count(0), 24);
            due(marked(x), "0@2 1@4 2@24");
            due(x.again(0), true);
            due(x.count(0), 21);
            due(marked(x), "");
            // Edits go on from there, thirty of them, and what is kept stays kept.
            for (int i = 0; i < 31; i++) {
                x.type(0, 'x');
            }
            due(x.count(4), 30);
            due(x.again(0), true);
            due(x.count(0), 21);
            due(x.again(2), true);
            due(x.count(0), 24);
            // The added stays.
            due(x.count(3), 7 + 1 + 31);
        });
        edges.edge("Refused: nothing kept.", () -> {
            due(new PieceBook().again(0), false);
            for (int i : new int[] {1, 3, MOST, -1, LEAST}) {
                Learnt.dueNoTrace(x -> bit(x.again(i)), 0);
            }
            PieceBook x = open("a");
            x.keep(1);
            due(x.again(0), false);
            due(x.again(2), false);
            due(x.again(1), true);
            x.opens(1);
            due(x.again(1), false);
        });
    }

    private static void count(Edges edges) {
        edges.ofPromise(50);
        edges.edge("What 0: SIGNS of THE BOOK, 1: LINES, 2: PIECES, 3: SIGNS of THE ADDED, 4: EDITS that can be "
            + "undone, 5: that can be done again, 6: MARKS that are set (bits), 7: numbers of the ROW, 8: signs of "
            + "THE TEXT.", () -> {
            PieceBook x = Learnt.undone();
            int[] due = {24, 4, 5, 8, 2, 2, 39, 5, 4};
            for (int what = 0; what < 9; what++) {
                due(x.count(what), due[what]);
            }
            PieceBook most = fullAndSpent();
            for (int i = 0; i < 8; i++) {
                most.marks(i, 3000 * (i % 2), 0);
            }
            text(most, "a".repeat(80));
            int[] dueMost = {3000, 3001, 4, 6000, 2, 0, 255, 0, 80};
            for (int what = 0; what < 9; what++) {
                due(most.count(what), dueMost[what]);
            }
        });
        edges.edge("-100 for another what.", () -> {
            for (int what : new int[] {9, 10, MOST, -1, LEAST}) {
                Learnt.dueNoTrace(x -> x.count(what), -100);
            }
        });
    }

    private static void row(Edges edges) {
        edges.ofPromise(51);
        edges.edge("Number i of the ROW. NoSuchElementException: none such.", () -> {
            PieceBook x = open("abcdefghijklmnopq");
            dueNoSuchElement(() -> x.row(0));
            x.reads(0, 16);
            due(x.row(0), 'a');
            due(x.row(15), 'p');
            for (int i : new int[] {16, 17, MOST, -1, LEAST}) {
                dueNoSuchElement(() -> x.row(i));
            }
            x.reads(0, 1);
            due(x.row(0), 'a');
            dueNoSuchElement(() -> x.row(1));
            x.reads(17, 1);
            dueNoSuchElement(() -> x.row(0));
            dueNoSuchElement(() -> new PieceBook().row(0));
        });
    }
}
